/-! what the tables answer, a row each (written by wip/whole/gen_look.py) -/
section ZL
variable {L : Nat} {xs : Nat → Int32} {fm : Bool}
theorem tF_9_9 : ia_tF (ia_P0 L xs fm) 9 9 = some (9, 0) := rfl
theorem tF_11_110 : ia_tF (ia_P0 L xs fm) 11 110 = some (9, 1) := rfl
theorem tF_9_19 : ia_tF (ia_P0 L xs fm) 9 19 = some (9, 1) := rfl
theorem tF_6_56 : ia_tF (ia_P0 L xs fm) 6 56 = some (9, 2) := rfl
theorem tF_4_66 : ia_tF (ia_P0 L xs fm) 4 66 = some (9, 2) := rfl
theorem tF_9_22 : ia_tF (ia_P0 L xs fm) 9 22 = some (9, 2) := rfl
theorem tF_5_82 : ia_tF (ia_P0 L xs fm) 5 82 = some (9, 2) := rfl
theorem tF_9_15 : ia_tF (ia_P0 L xs fm) 9 15 = some (9, 3) := rfl
theorem tF_5_38 : ia_tF (ia_P0 L xs fm) 5 38 = some (9, 3) := rfl
theorem tF_6_39 : ia_tF (ia_P0 L xs fm) 6 39 = some (9, 3) := rfl
theorem tF_4_47 : ia_tF (ia_P0 L xs fm) 4 47 = some (9, 3) := rfl
theorem tF_10_9 : ia_tF (ia_P0 L xs fm) 10 9 = some (10, 0) := rfl
theorem tF_0_21 : ia_tF (ia_P0 L xs fm) 0 21 = some (10, 0) := rfl
theorem tF_7_29 : ia_tF (ia_P0 L xs fm) 7 29 = some (10, 0) := rfl
theorem tF_4_40 : ia_tF (ia_P0 L xs fm) 4 40 = some (10, 0) := rfl
theorem tF_8_58 : ia_tF (ia_P0 L xs fm) 8 58 = some (10, 0) := rfl
theorem tF_11_153 : ia_tF (ia_P0 L xs fm) 11 153 = some (10, 0) := rfl
theorem tF_10_15 : ia_tF (ia_P0 L xs fm) 10 15 = some (10, 1) := rfl
theorem tF_4_72 : ia_tF (ia_P0 L xs fm) 4 72 = some (10, 1) := rfl
theorem tF_4_18 : ia_tF (ia_P0 L xs fm) 4 18 = some (4, 0) := rfl
theorem tF_4_12 : ia_tF (ia_P0 L xs fm) 4 12 = some (4, 1) := rfl
theorem tF_11_132 : ia_tF (ia_P0 L xs fm) 11 132 = some (4, 1) := rfl
theorem tF_5_15 : ia_tF (ia_P0 L xs fm) 5 15 = some (5, 0) := rfl
theorem tF_5_9 : ia_tF (ia_P0 L xs fm) 5 9 = some (5, 1) := rfl
theorem tF_11_159 : ia_tF (ia_P0 L xs fm) 11 159 = some (5, 1) := rfl
theorem tF_5_24 : ia_tF (ia_P0 L xs fm) 5 24 = some (5, 2) := rfl
theorem tF_11_162 : ia_tF (ia_P0 L xs fm) 11 162 = some (5, 2) := rfl
theorem tF_6_15 : ia_tF (ia_P0 L xs fm) 6 15 = some (6, 0) := rfl
theorem tF_6_9 : ia_tF (ia_P0 L xs fm) 6 9 = some (6, 1) := rfl
theorem tF_11_172 : ia_tF (ia_P0 L xs fm) 11 172 = some (6, 1) := rfl
theorem tF_6_24 : ia_tF (ia_P0 L xs fm) 6 24 = some (6, 2) := rfl
theorem tF_11_175 : ia_tF (ia_P0 L xs fm) 11 175 = some (6, 2) := rfl
theorem tF_2_9 : ia_tF (ia_P0 L xs fm) 2 9 = some (2, 0) := rfl
theorem tF_7_71 : ia_tF (ia_P0 L xs fm) 7 71 = some (2, 0) := rfl
theorem tF_2_15 : ia_tF (ia_P0 L xs fm) 2 15 = some (2, 1) := rfl
theorem tF_11_139 : ia_tF (ia_P0 L xs fm) 11 139 = some (2, 2) := rfl
theorem tF_7_79 : ia_tF (ia_P0 L xs fm) 7 79 = some (2, 2) := rfl
theorem tF_7_15 : ia_tF (ia_P0 L xs fm) 7 15 = some (7, 0) := rfl
theorem tF_0_15 : ia_tF (ia_P0 L xs fm) 0 15 = some (7, 0) := rfl
theorem tF_7_19 : ia_tF (ia_P0 L xs fm) 7 19 = some (7, 1) := rfl
theorem tF_7_9 : ia_tF (ia_P0 L xs fm) 7 9 = some (7, 2) := rfl
theorem tF_1_35 : ia_tF (ia_P0 L xs fm) 1 35 = some (7, 2) := rfl
theorem tF_11_268 : ia_tF (ia_P0 L xs fm) 11 268 = some (7, 2) := rfl
theorem tF_1_9 : ia_tF (ia_P0 L xs fm) 1 9 = some (1, 0) := rfl
theorem tF_1_15 : ia_tF (ia_P0 L xs fm) 1 15 = some (1, 1) := rfl
theorem tF_1_18 : ia_tF (ia_P0 L xs fm) 1 18 = some (1, 2) := rfl
theorem tF_1_21 : ia_tF (ia_P0 L xs fm) 1 21 = some (1, 3) := rfl
theorem tF_1_31 : ia_tF (ia_P0 L xs fm) 1 31 = some (1, 4) := rfl
theorem tF_11_364 : ia_tF (ia_P0 L xs fm) 11 364 = some (1, 4) := rfl
theorem tF_1_46 : ia_tF (ia_P0 L xs fm) 1 46 = some (1, 5) := rfl
theorem tF_1_24 : ia_tF (ia_P0 L xs fm) 1 24 = some (1, 6) := rfl
theorem tF_11_370 : ia_tF (ia_P0 L xs fm) 11 370 = some (1, 6) := rfl
theorem tF_1_55 : ia_tF (ia_P0 L xs fm) 1 55 = some (1, 7) := rfl
theorem tF_1_28 : ia_tF (ia_P0 L xs fm) 1 28 = some (1, 8) := rfl
theorem tF_11_355 : ia_tF (ia_P0 L xs fm) 11 355 = some (1, 8) := rfl
theorem tF_8_24 : ia_tF (ia_P0 L xs fm) 8 24 = some (8, 0) := rfl
theorem tF_8_33 : ia_tF (ia_P0 L xs fm) 8 33 = some (8, 1) := rfl
theorem tF_8_37 : ia_tF (ia_P0 L xs fm) 8 37 = some (8, 2) := rfl
theorem tF_8_9 : ia_tF (ia_P0 L xs fm) 8 9 = some (8, 3) := rfl
theorem tF_8_50 : ia_tF (ia_P0 L xs fm) 8 50 = some (8, 4) := rfl
theorem tF_8_15 : ia_tF (ia_P0 L xs fm) 8 15 = some (8, 5) := rfl
theorem tF_8_18 : ia_tF (ia_P0 L xs fm) 8 18 = some (8, 6) := rfl
theorem tF_8_21 : ia_tF (ia_P0 L xs fm) 8 21 = some (8, 7) := rfl
theorem tF_0_9 : ia_tF (ia_P0 L xs fm) 0 9 = some (0, 0) := rfl
theorem tF_0_26 : ia_tF (ia_P0 L xs fm) 0 26 = some (0, 1) := rfl
theorem tF_0_42 : ia_tF (ia_P0 L xs fm) 0 42 = some (0, 2) := rfl
theorem tF_0_48 : ia_tF (ia_P0 L xs fm) 0 48 = some (0, 3) := rfl
theorem tF_0_76 : ia_tF (ia_P0 L xs fm) 0 76 = some (0, 4) := rfl
theorem tF_11_290 : ia_tF (ia_P0 L xs fm) 11 290 = some (0, 4) := rfl
theorem tF_0_79 : ia_tF (ia_P0 L xs fm) 0 79 = some (0, 5) := rfl
theorem tF_11_293 : ia_tF (ia_P0 L xs fm) 11 293 = some (0, 5) := rfl
theorem tF_3_9 : ia_tF (ia_P0 L xs fm) 3 9 = some (3, 0) := rfl
theorem tF_3_15 : ia_tF (ia_P0 L xs fm) 3 15 = some (3, 1) := rfl
theorem tF_11_332 : ia_tF (ia_P0 L xs fm) 11 332 = some (3, 1) := rfl
theorem tF_3_19 : ia_tF (ia_P0 L xs fm) 3 19 = some (3, 2) := rfl
theorem tF_11_10 : ia_tF (ia_P0 L xs fm) 11 10 = some (11, 0) := rfl
theorem tF_11_21 : ia_tF (ia_P0 L xs fm) 11 21 = some (11, 1) := rfl
theorem tF_11_28 : ia_tF (ia_P0 L xs fm) 11 28 = some (11, 2) := rfl
theorem tF_11_35 : ia_tF (ia_P0 L xs fm) 11 35 = some (11, 3) := rfl
theorem tF_11_42 : ia_tF (ia_P0 L xs fm) 11 42 = some (11, 4) := rfl
theorem tF_11_49 : ia_tF (ia_P0 L xs fm) 11 49 = some (11, 5) := rfl
theorem tF_11_58 : ia_tF (ia_P0 L xs fm) 11 58 = some (11, 6) := rfl
theorem tF_11_62 : ia_tF (ia_P0 L xs fm) 11 62 = some (11, 7) := rfl
theorem tF_11_68 : ia_tF (ia_P0 L xs fm) 11 68 = some (11, 8) := rfl
theorem tF_11_75 : ia_tF (ia_P0 L xs fm) 11 75 = some (11, 9) := rfl
theorem tF_11_82 : ia_tF (ia_P0 L xs fm) 11 82 = some (11, 10) := rfl
theorem tF_11_89 : ia_tF (ia_P0 L xs fm) 11 89 = some (11, 11) := rfl
theorem tF_11_95 : ia_tF (ia_P0 L xs fm) 11 95 = some (11, 12) := rfl
theorem tF_11_99 : ia_tF (ia_P0 L xs fm) 11 99 = some (11, 13) := rfl
theorem tF_11_156 : ia_tF (ia_P0 L xs fm) 11 156 = some (11, 14) := rfl
theorem tF_11_169 : ia_tF (ia_P0 L xs fm) 11 169 = some (11, 15) := rfl
theorem tF_11_102 : ia_tF (ia_P0 L xs fm) 11 102 = some (11, 16) := rfl
theorem tF_11_149 : ia_tF (ia_P0 L xs fm) 11 149 = some (11, 17) := rfl
theorem tF_11_345 : ia_tF (ia_P0 L xs fm) 11 345 = some (11, 18) := rfl
theorem tF_12_93 : ia_tF (ia_P0 L xs fm) 12 93 = some (12, 0) := rfl
theorem tF_12_9 : ia_tF (ia_P0 L xs fm) 12 9 = some (12, 1) := rfl
theorem tF_12_13 : ia_tF (ia_P0 L xs fm) 12 13 = some (12, 2) := rfl
theorem tF_12_16 : ia_tF (ia_P0 L xs fm) 12 16 = some (12, 3) := rfl
theorem tF_12_20 : ia_tF (ia_P0 L xs fm) 12 20 = some (12, 4) := rfl
theorem tF_12_23 : ia_tF (ia_P0 L xs fm) 12 23 = some (12, 5) := rfl
theorem tF_12_106 : ia_tF (ia_P0 L xs fm) 12 106 = some (12, 6) := rfl
theorem tF_12_277 : ia_tF (ia_P0 L xs fm) 12 277 = some (12, 7) := rfl
theorem tF_12_122 : ia_tF (ia_P0 L xs fm) 12 122 = some (12, 8) := rfl
theorem tF_12_119 : ia_tF (ia_P0 L xs fm) 12 119 = some (12, 9) := rfl
theorem tF_12_116 : ia_tF (ia_P0 L xs fm) 12 116 = some (12, 10) := rfl
theorem tF_12_125 : ia_tF (ia_P0 L xs fm) 12 125 = some (12, 11) := rfl
theorem tF_12_128 : ia_tF (ia_P0 L xs fm) 12 128 = some (12, 12) := rfl
theorem tF_12_198 : ia_tF (ia_P0 L xs fm) 12 198 = some (12, 13) := rfl
theorem tF_12_201 : ia_tF (ia_P0 L xs fm) 12 201 = some (12, 14) := rfl
theorem tF_12_28 : ia_tF (ia_P0 L xs fm) 12 28 = some (12, 15) := rfl
theorem tF_12_34 : ia_tF (ia_P0 L xs fm) 12 34 = some (12, 16) := rfl
theorem tF_12_194 : ia_tF (ia_P0 L xs fm) 12 194 = some (12, 17) := rfl
theorem tF_12_37 : ia_tF (ia_P0 L xs fm) 12 37 = some (12, 18) := rfl
theorem tF_12_40 : ia_tF (ia_P0 L xs fm) 12 40 = some (12, 19) := rfl
theorem tF_12_43 : ia_tF (ia_P0 L xs fm) 12 43 = some (12, 20) := rfl
theorem tF_12_46 : ia_tF (ia_P0 L xs fm) 12 46 = some (12, 21) := rfl
theorem tF_12_49 : ia_tF (ia_P0 L xs fm) 12 49 = some (12, 22) := rfl
theorem tF_12_52 : ia_tF (ia_P0 L xs fm) 12 52 = some (12, 23) := rfl
theorem tF_12_285 : ia_tF (ia_P0 L xs fm) 12 285 = some (12, 24) := rfl
theorem tF_12_288 : ia_tF (ia_P0 L xs fm) 12 288 = some (12, 25) := rfl
theorem tF_12_291 : ia_tF (ia_P0 L xs fm) 12 291 = some (12, 26) := rfl
theorem tF_12_218 : ia_tF (ia_P0 L xs fm) 12 218 = some (12, 27) := rfl
theorem tF_12_221 : ia_tF (ia_P0 L xs fm) 12 221 = some (12, 28) := rfl
theorem tF_12_224 : ia_tF (ia_P0 L xs fm) 12 224 = some (12, 29) := rfl
theorem tF_12_55 : ia_tF (ia_P0 L xs fm) 12 55 = some (12, 30) := rfl
theorem tF_12_58 : ia_tF (ia_P0 L xs fm) 12 58 = some (12, 31) := rfl
theorem tF_12_280 : ia_tF (ia_P0 L xs fm) 12 280 = some (12, 32) := rfl
theorem tF_12_61 : ia_tF (ia_P0 L xs fm) 12 61 = some (12, 33) := rfl
theorem tF_12_64 : ia_tF (ia_P0 L xs fm) 12 64 = some (12, 34) := rfl
theorem tF_12_67 : ia_tF (ia_P0 L xs fm) 12 67 = some (12, 35) := rfl
theorem tF_12_71 : ia_tF (ia_P0 L xs fm) 12 71 = some (12, 36) := rfl
theorem tF_12_74 : ia_tF (ia_P0 L xs fm) 12 74 = some (12, 37) := rfl
theorem tF_12_77 : ia_tF (ia_P0 L xs fm) 12 77 = some (12, 38) := rfl
theorem tF_12_297 : ia_tF (ia_P0 L xs fm) 12 297 = some (12, 39) := rfl
theorem tF_12_300 : ia_tF (ia_P0 L xs fm) 12 300 = some (12, 40) := rfl
theorem tF_12_80 : ia_tF (ia_P0 L xs fm) 12 80 = some (12, 41) := rfl
theorem tF_12_390 : ia_tF (ia_P0 L xs fm) 12 390 = some (12, 42) := rfl
theorem tF_12_393 : ia_tF (ia_P0 L xs fm) 12 393 = some (12, 43) := rfl
theorem tF_12_408 : ia_tF (ia_P0 L xs fm) 12 408 = some (12, 44) := rfl
theorem tF_12_411 : ia_tF (ia_P0 L xs fm) 12 411 = some (12, 45) := rfl
theorem tF_12_417 : ia_tF (ia_P0 L xs fm) 12 417 = some (12, 46) := rfl
theorem tF_12_414 : ia_tF (ia_P0 L xs fm) 12 414 = some (12, 47) := rfl
theorem tF_12_83 : ia_tF (ia_P0 L xs fm) 12 83 = some (12, 48) := rfl
theorem tF_12_86 : ia_tF (ia_P0 L xs fm) 12 86 = some (12, 49) := rfl
theorem tF_12_294 : ia_tF (ia_P0 L xs fm) 12 294 = some (12, 50) := rfl
theorem tF_12_464 : ia_tF (ia_P0 L xs fm) 12 464 = some (12, 51) := rfl
theorem tF_12_90 : ia_tF (ia_P0 L xs fm) 12 90 = some (12, 52) := rfl
theorem tF_12_303 : ia_tF (ia_P0 L xs fm) 12 303 = some (12, 53) := rfl
theorem tF_900_15 : ia_tF (ia_P0 L xs fm) 900 15 = some (900, 1) := rfl
theorem tF_900_9 : ia_tF (ia_P0 L xs fm) 900 9 = some (900, 0) := rfl
set_option maxRecDepth 20000 in
theorem tM_13_15 : ia_tM (ia_P0 L xs fm) 13 15 = some (11000, 2) := rfl
set_option maxRecDepth 20000 in
theorem tM_11_1 : ia_tM (ia_P0 L xs fm) 11 1 = some (9000, 6) := rfl
set_option maxRecDepth 20000 in
theorem tM_11_9 : ia_tM (ia_P0 L xs fm) 11 9 = some (9000, 4) := rfl
set_option maxRecDepth 20000 in
theorem tM_9_3 : ia_tM (ia_P0 L xs fm) 9 3 = some (9000, 6) := rfl
set_option maxRecDepth 20000 in
theorem tM_11_18 : ia_tM (ia_P0 L xs fm) 11 18 = some (4000, 2) := rfl
set_option maxRecDepth 20000 in
theorem tM_4_3 : ia_tM (ia_P0 L xs fm) 4 3 = some (9000, 6) := rfl
set_option maxRecDepth 20000 in
theorem tM_4_11 : ia_tM (ia_P0 L xs fm) 4 11 = some (10000, 4) := rfl
set_option maxRecDepth 20000 in
theorem tM_10_3 : ia_tM (ia_P0 L xs fm) 10 3 = some (9000, 6) := rfl
set_option maxRecDepth 20000 in
theorem tM_11_27 : ia_tM (ia_P0 L xs fm) 11 27 = some (5000, 2) := rfl
set_option maxRecDepth 20000 in
theorem tM_5_3 : ia_tM (ia_P0 L xs fm) 5 3 = some (9000, 6) := rfl
set_option maxRecDepth 20000 in
theorem tM_11_34 : ia_tM (ia_P0 L xs fm) 11 34 = some (6000, 2) := rfl
set_option maxRecDepth 20000 in
theorem tM_6_3 : ia_tM (ia_P0 L xs fm) 6 3 = some (9000, 6) := rfl
set_option maxRecDepth 20000 in
theorem tM_11_41 : ia_tM (ia_P0 L xs fm) 11 41 = some (10000, 4) := rfl
set_option maxRecDepth 20000 in
theorem tM_11_48 : ia_tM (ia_P0 L xs fm) 11 48 = some (2000, 4) := rfl
set_option maxRecDepth 20000 in
theorem tM_2_3 : ia_tM (ia_P0 L xs fm) 2 3 = some (9000, 6) := rfl
set_option maxRecDepth 20000 in
theorem tM_11_55 : ia_tM (ia_P0 L xs fm) 11 55 = some (7000, 2) := rfl
set_option maxRecDepth 20000 in
theorem tM_7_3 : ia_tM (ia_P0 L xs fm) 7 3 = some (9000, 6) := rfl
set_option maxRecDepth 20000 in
theorem tM_11_67 : ia_tM (ia_P0 L xs fm) 11 67 = some (1000, 4) := rfl
set_option maxRecDepth 20000 in
theorem tM_1_3 : ia_tM (ia_P0 L xs fm) 1 3 = some (9000, 6) := rfl
set_option maxRecDepth 20000 in
theorem tM_11_74 : ia_tM (ia_P0 L xs fm) 11 74 = some (8000, 2) := rfl
set_option maxRecDepth 20000 in
theorem tM_8_3 : ia_tM (ia_P0 L xs fm) 8 3 = some (9000, 6) := rfl
set_option maxRecDepth 20000 in
theorem tM_8_30 : ia_tM (ia_P0 L xs fm) 8 30 = some (7000, 2) := rfl
set_option maxRecDepth 20000 in
theorem tM_11_81 : ia_tM (ia_P0 L xs fm) 11 81 = some (0, 4) := rfl
set_option maxRecDepth 20000 in
theorem tM_0_3 : ia_tM (ia_P0 L xs fm) 0 3 = some (9000, 6) := rfl
set_option maxRecDepth 20000 in
theorem tM_11_88 : ia_tM (ia_P0 L xs fm) 11 88 = some (3000, 4) := rfl
set_option maxRecDepth 20000 in
theorem tM_3_3 : ia_tM (ia_P0 L xs fm) 3 3 = some (9000, 6) := rfl
set_option maxRecDepth 20000 in
theorem tM_13_19 : ia_tM (ia_P0 L xs fm) 13 19 = some (11001, 1) := rfl
set_option maxRecDepth 20000 in
theorem tM_11_106 : ia_tM (ia_P0 L xs fm) 11 106 = some (9001, 0) := rfl
set_option maxRecDepth 20000 in
theorem tM_11_113 : ia_tM (ia_P0 L xs fm) 11 113 = some (9002, 1) := rfl
set_option maxRecDepth 20000 in
theorem tM_13_24 : ia_tM (ia_P0 L xs fm) 13 24 = some (11002, 1) := rfl
set_option maxRecDepth 20000 in
theorem tM_13_29 : ia_tM (ia_P0 L xs fm) 13 29 = some (11003, 1) := rfl
set_option maxRecDepth 20000 in
theorem tM_11_117 : ia_tM (ia_P0 L xs fm) 11 117 = some (4001, 1) := rfl
set_option maxRecDepth 20000 in
theorem tM_4_22 : ia_tM (ia_P0 L xs fm) 4 22 = some (9003, 1) := rfl
set_option maxRecDepth 20000 in
theorem tM_4_27 : ia_tM (ia_P0 L xs fm) 4 27 = some (10001, 1) := rfl
set_option maxRecDepth 20000 in
theorem tM_10_18 : ia_tM (ia_P0 L xs fm) 10 18 = some (904000, 0) := rfl
set_option maxRecDepth 20000 in
theorem tM_4_30 : ia_tM (ia_P0 L xs fm) 4 30 = some (4002, 1) := rfl
set_option maxRecDepth 20000 in
theorem tM_4_53 : ia_tM (ia_P0 L xs fm) 4 53 = some (9004, 1) := rfl
set_option maxRecDepth 20000 in
theorem tM_4_57 : ia_tM (ia_P0 L xs fm) 4 57 = some (900000, 1) := rfl
set_option maxRecDepth 20000 in
theorem tM_900_633 : ia_tM (ia_P0 L xs fm) 900 633 = some (900001, 1) := rfl
set_option maxRecDepth 20000 in
theorem tM_900_492 : ia_tM (ia_P0 L xs fm) 900 492 = some (900002, 1) := rfl
set_option maxRecDepth 20000 in
theorem tM_900_505 : ia_tM (ia_P0 L xs fm) 900 505 = some (900003, 1) := rfl
set_option maxRecDepth 20000 in
theorem tM_900_335 : ia_tM (ia_P0 L xs fm) 900 335 = some (900004, 1) := rfl
set_option maxRecDepth 20000 in
theorem tM_900_637 : ia_tM (ia_P0 L xs fm) 900 637 = some (901000, 0) := rfl
set_option maxRecDepth 20000 in
theorem tM_901_88 : ia_tM (ia_P0 L xs fm) 901 88 = some (901001, 0) := rfl
set_option maxRecDepth 20000 in
theorem tM_901_92 : ia_tM (ia_P0 L xs fm) 901 92 = some (9010, 10) := rfl
set_option maxRecDepth 20000 in
theorem tM_901_38 : ia_tM (ia_P0 L xs fm) 901 38 = some (9011, 11) := rfl
set_option maxRecDepth 20000 in
theorem tM_901_95 : ia_tM (ia_P0 L xs fm) 901 95 = some (901002, 0) := rfl
set_option maxRecDepth 20000 in
theorem tM_900_1062 : ia_tM (ia_P0 L xs fm) 900 1062 = some (905000, 0) := rfl
set_option maxRecDepth 20000 in
theorem tM_4_44 : ia_tM (ia_P0 L xs fm) 4 44 = some (9005, 1) := rfl
set_option maxRecDepth 20000 in
theorem tM_4_75 : ia_tM (ia_P0 L xs fm) 4 75 = some (10002, 0) := rfl
set_option maxRecDepth 20000 in
theorem tM_4_85 : ia_tM (ia_P0 L xs fm) 4 85 = some (4003, 1) := rfl
set_option maxRecDepth 20000 in
theorem tM_4_89 : ia_tM (ia_P0 L xs fm) 4 89 = some (4004, 0) := rfl
set_option maxRecDepth 20000 in
theorem tM_4_99 : ia_tM (ia_P0 L xs fm) 4 99 = some (9006, 1) := rfl
set_option maxRecDepth 20000 in
theorem tM_9_25 : ia_tM (ia_P0 L xs fm) 9 25 = some (9004, 1) := rfl
set_option maxRecDepth 20000 in
theorem tM_9_32 : ia_tM (ia_P0 L xs fm) 9 32 = some (9007, 0) := rfl
set_option maxRecDepth 20000 in
theorem tM_9_29 : ia_tM (ia_P0 L xs fm) 9 29 = some (9005, 1) := rfl
set_option maxRecDepth 20000 in
theorem tM_4_33 : ia_tM (ia_P0 L xs fm) 4 33 = some (9008, 1) := rfl
set_option maxRecDepth 20000 in
theorem tM_4_37 : ia_tM (ia_P0 L xs fm) 4 37 = some (9009, 1) := rfl
set_option maxRecDepth 20000 in
theorem tM_11_121 : ia_tM (ia_P0 L xs fm) 11 121 = some (5001, 1) := rfl
set_option maxRecDepth 20000 in
theorem tM_5_19 : ia_tM (ia_P0 L xs fm) 5 19 = some (9003, 1) := rfl
set_option maxRecDepth 20000 in
theorem tM_5_28 : ia_tM (ia_P0 L xs fm) 5 28 = some (5002, 1) := rfl
set_option maxRecDepth 20000 in
theorem tM_5_41 : ia_tM (ia_P0 L xs fm) 5 41 = some (9010, 1) := rfl
set_option maxRecDepth 20000 in
theorem tM_5_45 : ia_tM (ia_P0 L xs fm) 5 45 = some (9004, 1) := rfl
set_option maxRecDepth 20000 in
theorem tM_5_49 : ia_tM (ia_P0 L xs fm) 5 49 = some (5003, 1) := rfl
set_option maxRecDepth 20000 in
theorem tM_5_70 : ia_tM (ia_P0 L xs fm) 5 70 = some (5004, 1) := rfl
set_option maxRecDepth 20000 in
theorem tM_5_73 : ia_tM (ia_P0 L xs fm) 5 73 = some (5005, 1) := rfl
set_option maxRecDepth 20000 in
theorem tM_5_76 : ia_tM (ia_P0 L xs fm) 5 76 = some (5006, 1) := rfl
set_option maxRecDepth 20000 in
theorem tM_5_79 : ia_tM (ia_P0 L xs fm) 5 79 = some (9005, 1) := rfl
set_option maxRecDepth 20000 in
theorem tM_5_67 : ia_tM (ia_P0 L xs fm) 5 67 = some (5007, 1) := rfl
set_option maxRecDepth 20000 in
theorem tM_5_52 : ia_tM (ia_P0 L xs fm) 5 52 = some (5008, 1) := rfl
set_option maxRecDepth 20000 in
theorem tM_5_85 : ia_tM (ia_P0 L xs fm) 5 85 = some (5009, 1) := rfl
set_option maxRecDepth 20000 in
theorem tM_5_88 : ia_tM (ia_P0 L xs fm) 5 88 = some (5010, 1) := rfl
set_option maxRecDepth 20000 in
theorem tM_5_93 : ia_tM (ia_P0 L xs fm) 5 93 = some (900000, 1) := rfl
set_option maxRecDepth 20000 in
theorem tM_5_99 : ia_tM (ia_P0 L xs fm) 5 99 = some (9007, 0) := rfl
set_option maxRecDepth 20000 in
theorem tM_5_102 : ia_tM (ia_P0 L xs fm) 5 102 = some (9006, 1) := rfl
set_option maxRecDepth 20000 in
theorem tM_5_58 : ia_tM (ia_P0 L xs fm) 5 58 = some (5011, 1) := rfl
set_option maxRecDepth 20000 in
theorem tM_5_55 : ia_tM (ia_P0 L xs fm) 5 55 = some (5012, 0) := rfl
set_option maxRecDepth 20000 in
theorem tM_5_61 : ia_tM (ia_P0 L xs fm) 5 61 = some (5013, 1) := rfl
set_option maxRecDepth 20000 in
theorem tM_5_31 : ia_tM (ia_P0 L xs fm) 5 31 = some (9008, 1) := rfl
set_option maxRecDepth 20000 in
theorem tM_5_64 : ia_tM (ia_P0 L xs fm) 5 64 = some (5014, 1) := rfl
set_option maxRecDepth 20000 in
theorem tM_5_35 : ia_tM (ia_P0 L xs fm) 5 35 = some (9009, 1) := rfl
set_option maxRecDepth 20000 in
theorem tM_11_122 : ia_tM (ia_P0 L xs fm) 11 122 = some (6001, 1) := rfl
set_option maxRecDepth 20000 in
theorem tM_6_19 : ia_tM (ia_P0 L xs fm) 6 19 = some (9003, 1) := rfl
set_option maxRecDepth 20000 in
theorem tM_6_28 : ia_tM (ia_P0 L xs fm) 6 28 = some (6002, 1) := rfl
set_option maxRecDepth 20000 in
theorem tM_6_42 : ia_tM (ia_P0 L xs fm) 6 42 = some (9004, 1) := rfl
set_option maxRecDepth 20000 in
theorem tM_6_47 : ia_tM (ia_P0 L xs fm) 6 47 = some (900000, 1) := rfl
set_option maxRecDepth 20000 in
theorem tM_6_53 : ia_tM (ia_P0 L xs fm) 6 53 = some (9005, 1) := rfl
set_option maxRecDepth 20000 in
theorem tM_6_59 : ia_tM (ia_P0 L xs fm) 6 59 = some (9011, 1) := rfl
set_option maxRecDepth 20000 in
theorem tM_6_32 : ia_tM (ia_P0 L xs fm) 6 32 = some (9008, 1) := rfl
set_option maxRecDepth 20000 in
theorem tM_6_36 : ia_tM (ia_P0 L xs fm) 6 36 = some (9009, 1) := rfl
set_option maxRecDepth 20000 in
theorem tM_13_34 : ia_tM (ia_P0 L xs fm) 13 34 = some (11004, 1) := rfl
set_option maxRecDepth 20000 in
theorem tM_11_123 : ia_tM (ia_P0 L xs fm) 11 123 = some (11005, 1) := rfl
set_option maxRecDepth 20000 in
theorem tM_11_135 : ia_tM (ia_P0 L xs fm) 11 135 = some (10003, 1) := rfl
set_option maxRecDepth 20000 in
theorem tM_10_24 : ia_tM (ia_P0 L xs fm) 10 24 = some (9001, 7) := rfl
set_option maxRecDepth 20000 in
theorem tM_11_142 : ia_tM (ia_P0 L xs fm) 11 142 = some (7001, 1) := rfl
set_option maxRecDepth 20000 in
theorem tM_7_23 : ia_tM (ia_P0 L xs fm) 7 23 = some (904000, 0) := rfl
set_option maxRecDepth 20000 in
theorem tM_7_34 : ia_tM (ia_P0 L xs fm) 7 34 = some (10004, 1) := rfl
set_option maxRecDepth 20000 in
theorem tM_10_36 : ia_tM (ia_P0 L xs fm) 10 36 = some (10002, 0) := rfl
set_option maxRecDepth 20000 in
theorem tM_7_38 : ia_tM (ia_P0 L xs fm) 7 38 = some (7002, 1) := rfl
set_option maxRecDepth 20000 in
theorem tM_11_145 : ia_tM (ia_P0 L xs fm) 11 145 = some (1001, 1) := rfl
set_option maxRecDepth 20000 in
theorem tM_11_148 : ia_tM (ia_P0 L xs fm) 11 148 = some (3001, 1) := rfl
set_option maxRecDepth 20000 in
theorem tM_11_126 : ia_tM (ia_P0 L xs fm) 11 126 = some (11006, 1) := rfl
set_option maxRecDepth 20000 in
theorem tM_11_163 : ia_tM (ia_P0 L xs fm) 11 163 = some (904001, 0) := rfl
set_option maxRecDepth 20000 in
theorem tM_904_316 : ia_tM (ia_P0 L xs fm) 904 316 = some (9002, 8) := rfl
set_option maxRecDepth 20000 in
theorem tM_904_304 : ia_tM (ia_P0 L xs fm) 904 304 = some (9011, 11) := rfl
set_option maxRecDepth 20000 in
theorem tM_904_150 : ia_tM (ia_P0 L xs fm) 904 150 = some (9001, 7) := rfl
set_option maxRecDepth 20000 in
theorem tM_11_129 : ia_tM (ia_P0 L xs fm) 11 129 = some (11007, 1) := rfl
set_option maxRecDepth 20000 in
theorem tM_13_48 : ia_tM (ia_P0 L xs fm) 13 48 = some (11008, 1) := rfl
set_option maxRecDepth 20000 in
theorem tM_11_196 : ia_tM (ia_P0 L xs fm) 11 196 = some (11009, 1) := rfl
set_option maxRecDepth 20000 in
theorem tM_11_199 : ia_tM (ia_P0 L xs fm) 11 199 = some (7003, 1) := rfl
set_option maxRecDepth 20000 in
theorem tM_11_192 : ia_tM (ia_P0 L xs fm) 11 192 = some (10004, 1) := rfl
set_option maxRecDepth 20000 in
theorem tM_11_202 : ia_tM (ia_P0 L xs fm) 11 202 = some (7004, 1) := rfl
set_option maxRecDepth 20000 in
theorem tM_7_65 : ia_tM (ia_P0 L xs fm) 7 65 = some (7005, 1) := rfl
set_option maxRecDepth 20000 in
theorem tM_13_52 : ia_tM (ia_P0 L xs fm) 13 52 = some (11010, 1) := rfl
set_option maxRecDepth 20000 in
theorem tM_11_205 : ia_tM (ia_P0 L xs fm) 11 205 = some (11011, 1) := rfl
set_option maxRecDepth 20000 in
theorem tM_13_56 : ia_tM (ia_P0 L xs fm) 13 56 = some (11012, 1) := rfl
set_option maxRecDepth 20000 in
theorem tM_13_60 : ia_tM (ia_P0 L xs fm) 13 60 = some (11013, 1) := rfl
set_option maxRecDepth 20000 in
theorem tM_11_208 : ia_tM (ia_P0 L xs fm) 11 208 = some (11014, 1) := rfl
set_option maxRecDepth 20000 in
theorem tM_13_64 : ia_tM (ia_P0 L xs fm) 13 64 = some (11015, 1) := rfl
set_option maxRecDepth 20000 in
theorem tM_11_178 : ia_tM (ia_P0 L xs fm) 11 178 = some (11016, 1) := rfl
set_option maxRecDepth 20000 in
theorem tM_11_212 : ia_tM (ia_P0 L xs fm) 11 212 = some (7006, 1) := rfl
set_option maxRecDepth 20000 in
theorem tM_7_76 : ia_tM (ia_P0 L xs fm) 7 76 = some (7003, 1) := rfl
set_option maxRecDepth 20000 in
theorem tM_7_68 : ia_tM (ia_P0 L xs fm) 7 68 = some (7007, 1) := rfl
set_option maxRecDepth 20000 in
theorem tM_7_82 : ia_tM (ia_P0 L xs fm) 7 82 = some (2001, 1) := rfl
set_option maxRecDepth 20000 in
theorem tM_7_86 : ia_tM (ia_P0 L xs fm) 7 86 = some (2002, 1) := rfl
set_option maxRecDepth 20000 in
theorem tM_2_18 : ia_tM (ia_P0 L xs fm) 2 18 = some (2003, 1) := rfl
set_option maxRecDepth 20000 in
theorem tM_2_22 : ia_tM (ia_P0 L xs fm) 2 22 = some (2004, 0) := rfl
set_option maxRecDepth 20000 in
theorem tM_13_69 : ia_tM (ia_P0 L xs fm) 13 69 = some (11017, 1) := rfl
set_option maxRecDepth 20000 in
theorem tM_11_215 : ia_tM (ia_P0 L xs fm) 11 215 = some (7008, 1) := rfl
set_option maxRecDepth 20000 in
theorem tM_11_185 : ia_tM (ia_P0 L xs fm) 11 185 = some (7009, 1) := rfl
set_option maxRecDepth 20000 in
theorem tM_11_218 : ia_tM (ia_P0 L xs fm) 11 218 = some (9010, 10) := rfl
set_option maxRecDepth 20000 in
theorem tM_13_73 : ia_tM (ia_P0 L xs fm) 13 73 = some (11018, 1) := rfl
set_option maxRecDepth 20000 in
theorem tM_11_223 : ia_tM (ia_P0 L xs fm) 11 223 = some (11019, 1) := rfl
set_option maxRecDepth 20000 in
theorem tM_11_234 : ia_tM (ia_P0 L xs fm) 11 234 = some (7010, 1) := rfl
set_option maxRecDepth 20000 in
theorem tM_11_227 : ia_tM (ia_P0 L xs fm) 11 227 = some (11020, 0) := rfl
set_option maxRecDepth 20000 in
theorem tM_11_230 : ia_tM (ia_P0 L xs fm) 11 230 = some (1002, 1) := rfl
set_option maxRecDepth 20000 in
theorem tM_1_40 : ia_tM (ia_P0 L xs fm) 1 40 = some (9001, 7) := rfl
set_option maxRecDepth 20000 in
theorem tM_1_49 : ia_tM (ia_P0 L xs fm) 1 49 = some (9011, 11) := rfl
set_option maxRecDepth 20000 in
theorem tM_11_237 : ia_tM (ia_P0 L xs fm) 11 237 = some (7011, 1) := rfl
set_option maxRecDepth 20000 in
theorem tM_7_90 : ia_tM (ia_P0 L xs fm) 7 90 = some (7010, 1) := rfl
set_option maxRecDepth 20000 in
theorem tM_7_96 : ia_tM (ia_P0 L xs fm) 7 96 = some (7009, 1) := rfl
set_option maxRecDepth 20000 in
theorem tM_7_58 : ia_tM (ia_P0 L xs fm) 7 58 = some (7012, 1) := rfl
set_option maxRecDepth 20000 in
theorem tM_7_48 : ia_tM (ia_P0 L xs fm) 7 48 = some (7013, 1) := rfl
set_option maxRecDepth 20000 in
theorem tM_7_99 : ia_tM (ia_P0 L xs fm) 7 99 = some (7014, 1) := rfl
set_option maxRecDepth 20000 in
theorem tM_7_52 : ia_tM (ia_P0 L xs fm) 7 52 = some (9010, 10) := rfl
set_option maxRecDepth 20000 in
theorem tM_7_102 : ia_tM (ia_P0 L xs fm) 7 102 = some (7015, 1) := rfl
set_option maxRecDepth 20000 in
theorem tM_11_241 : ia_tM (ia_P0 L xs fm) 11 241 = some (7016, 1) := rfl
set_option maxRecDepth 20000 in
theorem tM_7_106 : ia_tM (ia_P0 L xs fm) 7 106 = some (9011, 11) := rfl
set_option maxRecDepth 20000 in
theorem tM_11_244 : ia_tM (ia_P0 L xs fm) 11 244 = some (7017, 1) := rfl
set_option maxRecDepth 20000 in
theorem tM_11_247 : ia_tM (ia_P0 L xs fm) 11 247 = some (1003, 1) := rfl
set_option maxRecDepth 20000 in
theorem tM_11_250 : ia_tM (ia_P0 L xs fm) 11 250 = some (7013, 1) := rfl
set_option maxRecDepth 20000 in
theorem tM_13_77 : ia_tM (ia_P0 L xs fm) 13 77 = some (11021, 1) := rfl
set_option maxRecDepth 20000 in
theorem tM_11_253 : ia_tM (ia_P0 L xs fm) 11 253 = some (7018, 1) := rfl
set_option maxRecDepth 20000 in
theorem tM_13_81 : ia_tM (ia_P0 L xs fm) 13 81 = some (11022, 1) := rfl
set_option maxRecDepth 20000 in
theorem tM_11_256 : ia_tM (ia_P0 L xs fm) 11 256 = some (7019, 1) := rfl
set_option maxRecDepth 20000 in
theorem tM_11_259 : ia_tM (ia_P0 L xs fm) 11 259 = some (7020, 1) := rfl
set_option maxRecDepth 20000 in
theorem tM_7_93 : ia_tM (ia_P0 L xs fm) 7 93 = some (7006, 1) := rfl
set_option maxRecDepth 20000 in
theorem tM_7_109 : ia_tM (ia_P0 L xs fm) 7 109 = some (7011, 1) := rfl
set_option maxRecDepth 20000 in
theorem tM_7_112 : ia_tM (ia_P0 L xs fm) 7 112 = some (7018, 1) := rfl
set_option maxRecDepth 20000 in
theorem tM_7_115 : ia_tM (ia_P0 L xs fm) 7 115 = some (7021, 1) := rfl
set_option maxRecDepth 20000 in
theorem tM_7_118 : ia_tM (ia_P0 L xs fm) 7 118 = some (7022, 1) := rfl
set_option maxRecDepth 20000 in
theorem tM_13_85 : ia_tM (ia_P0 L xs fm) 13 85 = some (11023, 1) := rfl
set_option maxRecDepth 20000 in
theorem tM_13_89 : ia_tM (ia_P0 L xs fm) 13 89 = some (11024, 1) := rfl
set_option maxRecDepth 20000 in
theorem tM_11_262 : ia_tM (ia_P0 L xs fm) 11 262 = some (7021, 1) := rfl
set_option maxRecDepth 20000 in
theorem tM_13_93 : ia_tM (ia_P0 L xs fm) 13 93 = some (11025, 1) := rfl
set_option maxRecDepth 20000 in
theorem tM_11_265 : ia_tM (ia_P0 L xs fm) 11 265 = some (7023, 1) := rfl
set_option maxRecDepth 20000 in
theorem tM_13_97 : ia_tM (ia_P0 L xs fm) 13 97 = some (11026, 1) := rfl
set_option maxRecDepth 20000 in
theorem tM_13_101 : ia_tM (ia_P0 L xs fm) 13 101 = some (11027, 1) := rfl
set_option maxRecDepth 20000 in
theorem tM_11_271 : ia_tM (ia_P0 L xs fm) 11 271 = some (1004, 1) := rfl
set_option maxRecDepth 20000 in
theorem tM_1_58 : ia_tM (ia_P0 L xs fm) 1 58 = some (9010, 10) := rfl
set_option maxRecDepth 20000 in
theorem tM_13_105 : ia_tM (ia_P0 L xs fm) 13 105 = some (11028, 1) := rfl
set_option maxRecDepth 20000 in
theorem tM_11_276 : ia_tM (ia_P0 L xs fm) 11 276 = some (8001, 1) := rfl
set_option maxRecDepth 20000 in
theorem tM_8_40 : ia_tM (ia_P0 L xs fm) 8 40 = some (904000, 0) := rfl
set_option maxRecDepth 20000 in
theorem tM_8_46 : ia_tM (ia_P0 L xs fm) 8 46 = some (8002, 1) := rfl
set_option maxRecDepth 20000 in
theorem tM_8_54 : ia_tM (ia_P0 L xs fm) 8 54 = some (8003, 1) := rfl
set_option maxRecDepth 20000 in
theorem tM_8_63 : ia_tM (ia_P0 L xs fm) 8 63 = some (11020, 3) := rfl
set_option maxRecDepth 20000 in
theorem tM_11_280 : ia_tM (ia_P0 L xs fm) 11 280 = some (8004, 1) := rfl
set_option maxRecDepth 20000 in
theorem tM_8_67 : ia_tM (ia_P0 L xs fm) 8 67 = some (7024, 1) := rfl
set_option maxRecDepth 20000 in
theorem tM_7_42 : ia_tM (ia_P0 L xs fm) 7 42 = some (9001, 7) := rfl
set_option maxRecDepth 20000 in
theorem tM_8_71 : ia_tM (ia_P0 L xs fm) 8 71 = some (7020, 1) := rfl
set_option maxRecDepth 20000 in
theorem tM_8_74 : ia_tM (ia_P0 L xs fm) 8 74 = some (7013, 1) := rfl
set_option maxRecDepth 20000 in
theorem tM_8_78 : ia_tM (ia_P0 L xs fm) 8 78 = some (8005, 1) := rfl
set_option maxRecDepth 20000 in
theorem tM_8_93 : ia_tM (ia_P0 L xs fm) 8 93 = some (7010, 1) := rfl
set_option maxRecDepth 20000 in
theorem tM_8_97 : ia_tM (ia_P0 L xs fm) 8 97 = some (7009, 1) := rfl
set_option maxRecDepth 20000 in
theorem tM_8_85 : ia_tM (ia_P0 L xs fm) 8 85 = some (8006, 1) := rfl
set_option maxRecDepth 20000 in
theorem tM_8_100 : ia_tM (ia_P0 L xs fm) 8 100 = some (7003, 1) := rfl
set_option maxRecDepth 20000 in
theorem tM_8_103 : ia_tM (ia_P0 L xs fm) 8 103 = some (7006, 1) := rfl
set_option maxRecDepth 20000 in
theorem tM_8_107 : ia_tM (ia_P0 L xs fm) 8 107 = some (9010, 10) := rfl
set_option maxRecDepth 20000 in
theorem tM_8_82 : ia_tM (ia_P0 L xs fm) 8 82 = some (8007, 1) := rfl
set_option maxRecDepth 20000 in
theorem tM_8_89 : ia_tM (ia_P0 L xs fm) 8 89 = some (7011, 1) := rfl
set_option maxRecDepth 20000 in
theorem tM_13_110 : ia_tM (ia_P0 L xs fm) 13 110 = some (11029, 1) := rfl
set_option maxRecDepth 20000 in
theorem tM_11_284 : ia_tM (ia_P0 L xs fm) 11 284 = some (1, 1) := rfl
set_option maxRecDepth 20000 in
theorem tM_0_30 : ia_tM (ia_P0 L xs fm) 0 30 = some (7010, 1) := rfl
set_option maxRecDepth 20000 in
theorem tM_0_34 : ia_tM (ia_P0 L xs fm) 0 34 = some (7006, 1) := rfl
set_option maxRecDepth 20000 in
theorem tM_0_38 : ia_tM (ia_P0 L xs fm) 0 38 = some (7013, 1) := rfl
set_option maxRecDepth 20000 in
theorem tM_0_45 : ia_tM (ia_P0 L xs fm) 0 45 = some (7009, 1) := rfl
set_option maxRecDepth 20000 in
theorem tM_11_287 : ia_tM (ia_P0 L xs fm) 11 287 = some (2, 1) := rfl
set_option maxRecDepth 20000 in
theorem tM_0_72 : ia_tM (ia_P0 L xs fm) 0 72 = some (3, 1) := rfl
set_option maxRecDepth 20000 in
theorem tM_0_57 : ia_tM (ia_P0 L xs fm) 0 57 = some (4, 1) := rfl
set_option maxRecDepth 20000 in
theorem tM_0_51 : ia_tM (ia_P0 L xs fm) 0 51 = some (9010, 10) := rfl
set_option maxRecDepth 20000 in
theorem tM_0_82 : ia_tM (ia_P0 L xs fm) 0 82 = some (5, 1) := rfl
set_option maxRecDepth 20000 in
theorem tM_13_114 : ia_tM (ia_P0 L xs fm) 13 114 = some (11030, 1) := rfl
set_option maxRecDepth 20000 in
theorem tM_11_296 : ia_tM (ia_P0 L xs fm) 11 296 = some (11031, 1) := rfl
set_option maxRecDepth 20000 in
theorem tM_11_317 : ia_tM (ia_P0 L xs fm) 11 317 = some (7024, 1) := rfl
set_option maxRecDepth 20000 in
theorem tM_11_352 : ia_tM (ia_P0 L xs fm) 11 352 = some (7025, 1) := rfl
set_option maxRecDepth 20000 in
theorem tM_13_118 : ia_tM (ia_P0 L xs fm) 13 118 = some (11032, 1) := rfl
set_option maxRecDepth 20000 in
theorem tM_11_300 : ia_tM (ia_P0 L xs fm) 11 300 = some (11033, 0) := rfl
set_option maxRecDepth 20000 in
theorem tM_13_123 : ia_tM (ia_P0 L xs fm) 13 123 = some (11034, 1) := rfl
set_option maxRecDepth 20000 in
theorem tM_11_304 : ia_tM (ia_P0 L xs fm) 11 304 = some (6, 1) := rfl
set_option maxRecDepth 20000 in
theorem tM_13_127 : ia_tM (ia_P0 L xs fm) 13 127 = some (11035, 1) := rfl
set_option maxRecDepth 20000 in
theorem tM_11_307 : ia_tM (ia_P0 L xs fm) 11 307 = some (7, 1) := rfl
set_option maxRecDepth 20000 in
theorem tM_0_60 : ia_tM (ia_P0 L xs fm) 0 60 = some (6, 1) := rfl
set_option maxRecDepth 20000 in
theorem tM_0_64 : ia_tM (ia_P0 L xs fm) 0 64 = some (903000, 0) := rfl
set_option maxRecDepth 20000 in
theorem tM_0_69 : ia_tM (ia_P0 L xs fm) 0 69 = some (8, 0) := rfl
set_option maxRecDepth 20000 in
theorem tM_13_131 : ia_tM (ia_P0 L xs fm) 13 131 = some (11036, 1) := rfl
set_option maxRecDepth 20000 in
theorem tM_11_310 : ia_tM (ia_P0 L xs fm) 11 310 = some (7026, 1) := rfl
set_option maxRecDepth 20000 in
theorem tM_13_135 : ia_tM (ia_P0 L xs fm) 13 135 = some (11037, 1) := rfl
set_option maxRecDepth 20000 in
theorem tM_11_314 : ia_tM (ia_P0 L xs fm) 11 314 = some (9011, 11) := rfl
set_option maxRecDepth 20000 in
theorem tM_13_139 : ia_tM (ia_P0 L xs fm) 13 139 = some (11038, 1) := rfl
set_option maxRecDepth 20000 in
theorem tM_13_143 : ia_tM (ia_P0 L xs fm) 13 143 = some (11039, 1) := rfl
set_option maxRecDepth 20000 in
theorem tM_11_319 : ia_tM (ia_P0 L xs fm) 11 319 = some (11040, 1) := rfl
set_option maxRecDepth 20000 in
theorem tM_11_322 : ia_tM (ia_P0 L xs fm) 11 322 = some (11041, 0) := rfl
set_option maxRecDepth 20000 in
theorem tM_13_147 : ia_tM (ia_P0 L xs fm) 13 147 = some (11042, 1) := rfl
set_option maxRecDepth 20000 in
theorem tM_11_325 : ia_tM (ia_P0 L xs fm) 11 325 = some (11043, 1) := rfl
set_option maxRecDepth 20000 in
theorem tM_13_151 : ia_tM (ia_P0 L xs fm) 13 151 = some (11044, 1) := rfl
set_option maxRecDepth 20000 in
theorem tM_13_155 : ia_tM (ia_P0 L xs fm) 13 155 = some (11045, 1) := rfl
set_option maxRecDepth 20000 in
theorem tM_11_328 : ia_tM (ia_P0 L xs fm) 11 328 = some (3002, 1) := rfl
set_option maxRecDepth 20000 in
theorem tM_13_160 : ia_tM (ia_P0 L xs fm) 13 160 = some (11046, 1) := rfl
set_option maxRecDepth 20000 in
theorem tM_13_165 : ia_tM (ia_P0 L xs fm) 13 165 = some (11047, 1) := rfl
set_option maxRecDepth 20000 in
theorem tM_11_333 : ia_tM (ia_P0 L xs fm) 11 333 = some (3003, 1) := rfl
set_option maxRecDepth 20000 in
theorem tM_3_29 : ia_tM (ia_P0 L xs fm) 3 29 = some (3004, 1) := rfl
set_option maxRecDepth 20000 in
theorem tM_3_23 : ia_tM (ia_P0 L xs fm) 3 23 = some (9010, 10) := rfl
set_option maxRecDepth 20000 in
theorem tM_11_336 : ia_tM (ia_P0 L xs fm) 11 336 = some (3005, 1) := rfl
set_option maxRecDepth 20000 in
theorem tM_11_339 : ia_tM (ia_P0 L xs fm) 11 339 = some (3006, 1) := rfl
set_option maxRecDepth 20000 in
theorem tM_13_169 : ia_tM (ia_P0 L xs fm) 13 169 = some (11048, 1) := rfl
set_option maxRecDepth 20000 in
theorem tM_13_173 : ia_tM (ia_P0 L xs fm) 13 173 = some (11049, 1) := rfl
set_option maxRecDepth 20000 in
theorem tM_11_342 : ia_tM (ia_P0 L xs fm) 11 342 = some (9012, 12) := rfl
set_option maxRecDepth 20000 in
theorem tM_13_177 : ia_tM (ia_P0 L xs fm) 13 177 = some (11050, 1) := rfl
set_option maxRecDepth 20000 in
theorem tM_13_183 : ia_tM (ia_P0 L xs fm) 13 183 = some (11051, 1) := rfl
set_option maxRecDepth 20000 in
theorem tM_11_349 : ia_tM (ia_P0 L xs fm) 11 349 = some (11052, 1) := rfl
set_option maxRecDepth 20000 in
theorem tM_13_188 : ia_tM (ia_P0 L xs fm) 13 188 = some (11053, 1) := rfl
set_option maxRecDepth 20000 in
theorem tM_13_192 : ia_tM (ia_P0 L xs fm) 13 192 = some (11054, 1) := rfl
set_option maxRecDepth 20000 in
theorem tM_11_358 : ia_tM (ia_P0 L xs fm) 11 358 = some (1005, 1) := rfl
set_option maxRecDepth 20000 in
theorem tM_13_196 : ia_tM (ia_P0 L xs fm) 13 196 = some (11055, 1) := rfl
set_option maxRecDepth 20000 in
theorem tM_11_361 : ia_tM (ia_P0 L xs fm) 11 361 = some (1006, 1) := rfl
set_option maxRecDepth 20000 in
theorem tM_13_200 : ia_tM (ia_P0 L xs fm) 13 200 = some (11056, 1) := rfl
set_option maxRecDepth 20000 in
theorem tM_11_367 : ia_tM (ia_P0 L xs fm) 11 367 = some (1007, 1) := rfl
set_option maxRecDepth 20000 in
theorem tM_13_204 : ia_tM (ia_P0 L xs fm) 13 204 = some (11057, 1) := rfl
set_option maxRecDepth 20000 in
theorem tM_13_7 : ia_tM (ia_P0 L xs fm) 13 7 = some (11058, 1) := rfl
set_option maxRecDepth 20000 in
theorem tM_11_188 : ia_tM (ia_P0 L xs fm) 11 188 = some (7007, 1) := rfl
set_option maxRecDepth 20000 in
theorem tM_13_18 : ia_tM (ia_P0 L xs fm) 13 18 = some (12000, 2) := rfl
set_option maxRecDepth 20000 in
theorem tM_12_3 : ia_tM (ia_P0 L xs fm) 12 3 = some (9000, 6) := rfl
set_option maxRecDepth 20000 in
theorem tM_13_44 : ia_tM (ia_P0 L xs fm) 13 44 = some (12001, 1) := rfl
set_option maxRecDepth 20000 in
theorem tM_13_23 : ia_tM (ia_P0 L xs fm) 13 23 = some (12002, 1) := rfl
set_option maxRecDepth 20000 in
theorem tM_12_108 : ia_tM (ia_P0 L xs fm) 12 108 = some (12003, 0) := rfl
set_option maxRecDepth 20000 in
theorem tM_12_112 : ia_tM (ia_P0 L xs fm) 12 112 = some (12004, 1) := rfl
set_option maxRecDepth 20000 in
theorem tM_13_28 : ia_tM (ia_P0 L xs fm) 13 28 = some (12005, 1) := rfl
set_option maxRecDepth 20000 in
theorem tM_13_33 : ia_tM (ia_P0 L xs fm) 13 33 = some (12006, 1) := rfl
set_option maxRecDepth 20000 in
theorem tM_12_214 : ia_tM (ia_P0 L xs fm) 12 214 = some (12007, 0) := rfl
set_option maxRecDepth 20000 in
theorem tM_12_268 : ia_tM (ia_P0 L xs fm) 12 268 = some (12008, 1) := rfl
set_option maxRecDepth 20000 in
theorem tM_12_204 : ia_tM (ia_P0 L xs fm) 12 204 = some (12009, 1) := rfl
set_option maxRecDepth 20000 in
theorem tM_12_255 : ia_tM (ia_P0 L xs fm) 12 255 = some (12010, 1) := rfl
set_option maxRecDepth 20000 in
theorem tM_12_135 : ia_tM (ia_P0 L xs fm) 12 135 = some (12011, 1) := rfl
set_option maxRecDepth 20000 in
theorem tM_12_131 : ia_tM (ia_P0 L xs fm) 12 131 = some (12012, 1) := rfl
set_option maxRecDepth 20000 in
theorem tM_12_96 : ia_tM (ia_P0 L xs fm) 12 96 = some (900003, 1) := rfl
set_option maxRecDepth 20000 in
theorem tM_12_233 : ia_tM (ia_P0 L xs fm) 12 233 = some (12013, 0) := rfl
set_option maxRecDepth 20000 in
theorem tM_12_237 : ia_tM (ia_P0 L xs fm) 12 237 = some (12014, 0) := rfl
set_option maxRecDepth 20000 in
theorem tM_12_102 : ia_tM (ia_P0 L xs fm) 12 102 = some (900006, 1) := rfl
set_option maxRecDepth 20000 in
theorem tM_900_495 : ia_tM (ia_P0 L xs fm) 900 495 = some (901003, 0) := rfl
set_option maxRecDepth 20000 in
theorem tM_901_9 : ia_tM (ia_P0 L xs fm) 901 9 = some (900007, 0) := rfl
set_option maxRecDepth 20000 in
theorem tM_900_1059 : ia_tM (ia_P0 L xs fm) 900 1059 = some (905001, 0) := rfl
set_option maxRecDepth 20000 in
theorem tM_12_241 : ia_tM (ia_P0 L xs fm) 12 241 = some (12015, 0) := rfl
set_option maxRecDepth 20000 in
theorem tM_12_245 : ia_tM (ia_P0 L xs fm) 12 245 = some (12016, 0) := rfl
set_option maxRecDepth 20000 in
theorem tM_12_248 : ia_tM (ia_P0 L xs fm) 12 248 = some (12017, 0) := rfl
set_option maxRecDepth 20000 in
theorem tM_12_251 : ia_tM (ia_P0 L xs fm) 12 251 = some (12018, 1) := rfl
set_option maxRecDepth 20000 in
theorem tM_12_165 : ia_tM (ia_P0 L xs fm) 12 165 = some (12019, 1) := rfl
set_option maxRecDepth 20000 in
theorem tM_12_211 : ia_tM (ia_P0 L xs fm) 12 211 = some (12020, 1) := rfl
set_option maxRecDepth 20000 in
theorem tM_12_271 : ia_tM (ia_P0 L xs fm) 12 271 = some (12021, 1) := rfl
set_option maxRecDepth 20000 in
theorem tM_12_208 : ia_tM (ia_P0 L xs fm) 12 208 = some (12022, 1) := rfl
set_option maxRecDepth 20000 in
theorem tM_12_151 : ia_tM (ia_P0 L xs fm) 12 151 = some (12023, 0) := rfl
set_option maxRecDepth 20000 in
theorem tM_12_161 : ia_tM (ia_P0 L xs fm) 12 161 = some (12024, 1) := rfl
set_option maxRecDepth 20000 in
theorem tM_12_184 : ia_tM (ia_P0 L xs fm) 12 184 = some (12025, 1) := rfl
set_option maxRecDepth 20000 in
theorem tM_12_191 : ia_tM (ia_P0 L xs fm) 12 191 = some (12026, 1) := rfl
set_option maxRecDepth 20000 in
theorem tM_12_188 : ia_tM (ia_P0 L xs fm) 12 188 = some (12027, 1) := rfl
set_option maxRecDepth 20000 in
theorem tM_12_158 : ia_tM (ia_P0 L xs fm) 12 158 = some (12028, 1) := rfl
set_option maxRecDepth 20000 in
theorem tM_12_175 : ia_tM (ia_P0 L xs fm) 12 175 = some (12029, 1) := rfl
set_option maxRecDepth 20000 in
theorem tM_12_168 : ia_tM (ia_P0 L xs fm) 12 168 = some (12030, 1) := rfl
set_option maxRecDepth 20000 in
theorem tM_12_155 : ia_tM (ia_P0 L xs fm) 12 155 = some (12031, 1) := rfl
set_option maxRecDepth 20000 in
theorem tM_12_171 : ia_tM (ia_P0 L xs fm) 12 171 = some (12032, 0) := rfl
set_option maxRecDepth 20000 in
theorem tM_12_142 : ia_tM (ia_P0 L xs fm) 12 142 = some (9014, 14) := rfl
set_option maxRecDepth 20000 in
theorem tM_12_148 : ia_tM (ia_P0 L xs fm) 12 148 = some (9013, 13) := rfl
set_option maxRecDepth 20000 in
theorem tM_12_178 : ia_tM (ia_P0 L xs fm) 12 178 = some (12033, 0) := rfl
set_option maxRecDepth 20000 in
theorem tM_12_181 : ia_tM (ia_P0 L xs fm) 12 181 = some (12034, 1) := rfl
set_option maxRecDepth 20000 in
theorem tM_12_274 : ia_tM (ia_P0 L xs fm) 12 274 = some (12035, 1) := rfl
set_option maxRecDepth 20000 in
theorem tM_12_263 : ia_tM (ia_P0 L xs fm) 12 263 = some (12036, 1) := rfl
set_option maxRecDepth 20000 in
theorem tM_12_260 : ia_tM (ia_P0 L xs fm) 12 260 = some (12037, 1) := rfl
set_option maxRecDepth 20000 in
theorem tM_13_37 : ia_tM (ia_P0 L xs fm) 13 37 = some (12038, 1) := rfl
set_option maxRecDepth 20000 in
theorem tM_12_283 : ia_tM (ia_P0 L xs fm) 12 283 = some (12006, 1) := rfl
set_option maxRecDepth 20000 in
theorem tM_13_43 : ia_tM (ia_P0 L xs fm) 13 43 = some (12039, 1) := rfl
set_option maxRecDepth 20000 in
theorem tM_12_316 : ia_tM (ia_P0 L xs fm) 12 316 = some (12040, 1) := rfl
set_option maxRecDepth 20000 in
theorem tM_12_321 : ia_tM (ia_P0 L xs fm) 12 321 = some (12041, 0) := rfl
set_option maxRecDepth 20000 in
theorem tM_13_51 : ia_tM (ia_P0 L xs fm) 13 51 = some (12042, 1) := rfl
set_option maxRecDepth 20000 in
theorem tM_12_325 : ia_tM (ia_P0 L xs fm) 12 325 = some (12043, 1) := rfl
set_option maxRecDepth 20000 in
theorem tM_13_55 : ia_tM (ia_P0 L xs fm) 13 55 = some (12044, 1) := rfl
set_option maxRecDepth 20000 in
theorem tM_13_59 : ia_tM (ia_P0 L xs fm) 13 59 = some (12045, 1) := rfl
set_option maxRecDepth 20000 in
theorem tM_13_63 : ia_tM (ia_P0 L xs fm) 13 63 = some (12046, 1) := rfl
set_option maxRecDepth 20000 in
theorem tM_13_68 : ia_tM (ia_P0 L xs fm) 13 68 = some (12047, 1) := rfl
set_option maxRecDepth 20000 in
theorem tM_12_330 : ia_tM (ia_P0 L xs fm) 12 330 = some (12048, 1) := rfl
set_option maxRecDepth 20000 in
theorem tM_12_333 : ia_tM (ia_P0 L xs fm) 12 333 = some (12049, 1) := rfl
set_option maxRecDepth 20000 in
theorem tM_12_312 : ia_tM (ia_P0 L xs fm) 12 312 = some (12050, 1) := rfl
set_option maxRecDepth 20000 in
theorem tM_12_308 : ia_tM (ia_P0 L xs fm) 12 308 = some (9010, 10) := rfl
set_option maxRecDepth 20000 in
theorem tM_12_310 : ia_tM (ia_P0 L xs fm) 12 310 = some (9011, 11) := rfl
set_option maxRecDepth 20000 in
theorem tM_13_72 : ia_tM (ia_P0 L xs fm) 13 72 = some (12051, 1) := rfl
set_option maxRecDepth 20000 in
theorem tM_13_76 : ia_tM (ia_P0 L xs fm) 13 76 = some (12052, 1) := rfl
set_option maxRecDepth 20000 in
theorem tM_12_354 : ia_tM (ia_P0 L xs fm) 12 354 = some (12053, 0) := rfl
set_option maxRecDepth 20000 in
theorem tM_12_358 : ia_tM (ia_P0 L xs fm) 12 358 = some (12054, 1) := rfl
set_option maxRecDepth 20000 in
theorem tM_12_350 : ia_tM (ia_P0 L xs fm) 12 350 = some (12055, 1) := rfl
set_option maxRecDepth 20000 in
theorem tM_12_361 : ia_tM (ia_P0 L xs fm) 12 361 = some (12056, 1) := rfl
set_option maxRecDepth 20000 in
theorem tM_13_80 : ia_tM (ia_P0 L xs fm) 13 80 = some (12057, 1) := rfl
set_option maxRecDepth 20000 in
theorem tM_12_364 : ia_tM (ia_P0 L xs fm) 12 364 = some (12058, 1) := rfl
set_option maxRecDepth 20000 in
theorem tM_12_341 : ia_tM (ia_P0 L xs fm) 12 341 = some (12059, 1) := rfl
set_option maxRecDepth 20000 in
theorem tM_13_84 : ia_tM (ia_P0 L xs fm) 13 84 = some (12060, 1) := rfl
set_option maxRecDepth 20000 in
theorem tM_12_337 : ia_tM (ia_P0 L xs fm) 12 337 = some (12061, 1) := rfl
set_option maxRecDepth 20000 in
theorem tM_13_88 : ia_tM (ia_P0 L xs fm) 13 88 = some (12062, 1) := rfl
set_option maxRecDepth 20000 in
theorem tM_12_347 : ia_tM (ia_P0 L xs fm) 12 347 = some (12063, 1) := rfl
set_option maxRecDepth 20000 in
theorem tM_13_92 : ia_tM (ia_P0 L xs fm) 13 92 = some (12064, 1) := rfl
set_option maxRecDepth 20000 in
theorem tM_12_344 : ia_tM (ia_P0 L xs fm) 12 344 = some (12065, 1) := rfl
set_option maxRecDepth 20000 in
theorem tM_13_96 : ia_tM (ia_P0 L xs fm) 13 96 = some (12066, 1) := rfl
set_option maxRecDepth 20000 in
theorem tM_13_100 : ia_tM (ia_P0 L xs fm) 13 100 = some (12067, 1) := rfl
set_option maxRecDepth 20000 in
theorem tM_13_104 : ia_tM (ia_P0 L xs fm) 13 104 = some (12068, 1) := rfl
set_option maxRecDepth 20000 in
theorem tM_13_195 : ia_tM (ia_P0 L xs fm) 13 195 = some (12069, 1) := rfl
set_option maxRecDepth 20000 in
theorem tM_13_109 : ia_tM (ia_P0 L xs fm) 13 109 = some (12070, 1) := rfl
set_option maxRecDepth 20000 in
theorem tM_12_371 : ia_tM (ia_P0 L xs fm) 12 371 = some (12071, 1) := rfl
set_option maxRecDepth 20000 in
theorem tM_12_378 : ia_tM (ia_P0 L xs fm) 12 378 = some (12072, 1) := rfl
set_option maxRecDepth 20000 in
theorem tM_12_375 : ia_tM (ia_P0 L xs fm) 12 375 = some (12073, 1) := rfl
set_option maxRecDepth 20000 in
theorem tM_12_382 : ia_tM (ia_P0 L xs fm) 12 382 = some (12074, 1) := rfl
set_option maxRecDepth 20000 in
theorem tM_12_385 : ia_tM (ia_P0 L xs fm) 12 385 = some (12075, 1) := rfl
set_option maxRecDepth 20000 in
theorem tM_13_113 : ia_tM (ia_P0 L xs fm) 13 113 = some (12076, 1) := rfl
set_option maxRecDepth 20000 in
theorem tM_12_396 : ia_tM (ia_P0 L xs fm) 12 396 = some (12077, 1) := rfl
set_option maxRecDepth 20000 in
theorem tM_12_400 : ia_tM (ia_P0 L xs fm) 12 400 = some (12078, 1) := rfl
set_option maxRecDepth 20000 in
theorem tM_12_404 : ia_tM (ia_P0 L xs fm) 12 404 = some (12079, 1) := rfl
set_option maxRecDepth 20000 in
theorem tM_13_117 : ia_tM (ia_P0 L xs fm) 13 117 = some (12080, 1) := rfl
set_option maxRecDepth 20000 in
theorem tM_12_420 : ia_tM (ia_P0 L xs fm) 12 420 = some (12081, 1) := rfl
set_option maxRecDepth 20000 in
theorem tM_13_122 : ia_tM (ia_P0 L xs fm) 13 122 = some (12082, 1) := rfl
set_option maxRecDepth 20000 in
theorem tM_13_191 : ia_tM (ia_P0 L xs fm) 13 191 = some (12083, 1) := rfl
set_option maxRecDepth 20000 in
theorem tM_13_126 : ia_tM (ia_P0 L xs fm) 13 126 = some (12084, 1) := rfl
set_option maxRecDepth 20000 in
theorem tM_12_423 : ia_tM (ia_P0 L xs fm) 12 423 = some (12085, 1) := rfl
set_option maxRecDepth 20000 in
theorem tM_13_130 : ia_tM (ia_P0 L xs fm) 13 130 = some (12086, 1) := rfl
set_option maxRecDepth 20000 in
theorem tM_12_426 : ia_tM (ia_P0 L xs fm) 12 426 = some (903000, 0) := rfl
set_option maxRecDepth 20000 in
theorem tM_12_431 : ia_tM (ia_P0 L xs fm) 12 431 = some (12087, 0) := rfl
set_option maxRecDepth 20000 in
theorem tM_13_134 : ia_tM (ia_P0 L xs fm) 13 134 = some (12088, 1) := rfl
set_option maxRecDepth 20000 in
theorem tM_12_434 : ia_tM (ia_P0 L xs fm) 12 434 = some (12089, 1) := rfl
set_option maxRecDepth 20000 in
theorem tM_13_138 : ia_tM (ia_P0 L xs fm) 13 138 = some (12090, 1) := rfl
set_option maxRecDepth 20000 in
theorem tM_13_142 : ia_tM (ia_P0 L xs fm) 13 142 = some (12091, 1) := rfl
set_option maxRecDepth 20000 in
theorem tM_13_146 : ia_tM (ia_P0 L xs fm) 13 146 = some (12092, 1) := rfl
set_option maxRecDepth 20000 in
theorem tM_12_445 : ia_tM (ia_P0 L xs fm) 12 445 = some (12093, 1) := rfl
set_option maxRecDepth 20000 in
theorem tM_12_438 : ia_tM (ia_P0 L xs fm) 12 438 = some (12094, 1) := rfl
set_option maxRecDepth 20000 in
theorem tM_12_442 : ia_tM (ia_P0 L xs fm) 12 442 = some (12095, 0) := rfl
set_option maxRecDepth 20000 in
theorem tM_13_150 : ia_tM (ia_P0 L xs fm) 13 150 = some (12096, 1) := rfl
set_option maxRecDepth 20000 in
theorem tM_12_451 : ia_tM (ia_P0 L xs fm) 12 451 = some (12097, 1) := rfl
set_option maxRecDepth 20000 in
theorem tM_13_154 : ia_tM (ia_P0 L xs fm) 13 154 = some (12098, 1) := rfl
set_option maxRecDepth 20000 in
theorem tM_13_159 : ia_tM (ia_P0 L xs fm) 13 159 = some (12099, 1) := rfl
set_option maxRecDepth 20000 in
theorem tM_13_164 : ia_tM (ia_P0 L xs fm) 13 164 = some (12100, 1) := rfl
set_option maxRecDepth 20000 in
theorem tM_13_168 : ia_tM (ia_P0 L xs fm) 13 168 = some (12101, 1) := rfl
set_option maxRecDepth 20000 in
theorem tM_12_458 : ia_tM (ia_P0 L xs fm) 12 458 = some (12102, 1) := rfl
set_option maxRecDepth 20000 in
theorem tM_13_172 : ia_tM (ia_P0 L xs fm) 13 172 = some (12103, 1) := rfl
set_option maxRecDepth 20000 in
theorem tM_13_176 : ia_tM (ia_P0 L xs fm) 13 176 = some (12104, 1) := rfl
set_option maxRecDepth 20000 in
theorem tM_12_461 : ia_tM (ia_P0 L xs fm) 12 461 = some (9012, 12) := rfl
set_option maxRecDepth 20000 in
theorem tM_13_180 : ia_tM (ia_P0 L xs fm) 13 180 = some (12105, 1) := rfl
set_option maxRecDepth 20000 in
theorem tM_13_187 : ia_tM (ia_P0 L xs fm) 13 187 = some (12106, 1) := rfl
set_option maxRecDepth 20000 in
theorem tM_12_474 : ia_tM (ia_P0 L xs fm) 12 474 = some (12107, 1) := rfl
set_option maxRecDepth 20000 in
theorem tM_13_199 : ia_tM (ia_P0 L xs fm) 13 199 = some (12108, 1) := rfl
set_option maxRecDepth 20000 in
theorem tM_13_203 : ia_tM (ia_P0 L xs fm) 13 203 = some (12109, 1) := rfl
set_option maxRecDepth 20000 in
theorem tM_13_207 : ia_tM (ia_P0 L xs fm) 13 207 = some (12110, 1) := rfl
theorem tK_4_51 : ia_tK (ia_P0 L xs fm) 4 51 = some (.ref 1000100) := rfl
theorem tK_4_102 : ia_tK (ia_P0 L xs fm) 4 102 = some (.ref 1000101) := rfl
theorem tK_4_104 : ia_tK (ia_P0 L xs fm) 4 104 = some (.ref 1000102) := rfl
theorem tK_4_106 : ia_tK (ia_P0 L xs fm) 4 106 = some (.ref 1000103) := rfl
theorem tK_5_91 : ia_tK (ia_P0 L xs fm) 5 91 = some (.ref 1000104) := rfl
theorem tK_6_45 : ia_tK (ia_P0 L xs fm) 6 45 = some (.ref 1000105) := rfl
theorem tK_2_26 : ia_tK (ia_P0 L xs fm) 2 26 = some (.long (1000000)) := rfl
theorem tK_2_28 : ia_tK (ia_P0 L xs fm) 2 28 = some (.int (1000000)) := rfl
theorem tK_2_29 : ia_tK (ia_P0 L xs fm) 2 29 = some (.long (-1000000)) := rfl
theorem tK_2_31 : ia_tK (ia_P0 L xs fm) 2 31 = some (.int (-1000000)) := rfl
theorem tK_11_275 : ia_tK (ia_P0 L xs fm) 11 275 = some (.int (-1000000)) := rfl
theorem tK_903_265 : ia_tK (ia_P0 L xs fm) 903 265 = some (.int (1431655765)) := rfl
theorem tK_903_266 : ia_tK (ia_P0 L xs fm) 903 266 = some (.int (858993459)) := rfl
theorem tK_903_267 : ia_tK (ia_P0 L xs fm) 903 267 = some (.int (252645135)) := rfl
theorem tK_11_373 : ia_tK (ia_P0 L xs fm) 11 373 = some (.long (6364136223846793005)) := rfl
theorem tK_11_375 : ia_tK (ia_P0 L xs fm) 11 375 = some (.long (1442695040888963407)) := rfl
theorem tK_12_26 : ia_tK (ia_P0 L xs fm) 12 26 = some (.ref 1000106) := rfl
theorem tK_12_32 : ia_tK (ia_P0 L xs fm) 12 32 = some (.ref 1000104) := rfl
theorem tK_12_266 : ia_tK (ia_P0 L xs fm) 12 266 = some (.long (2)) := rfl
theorem tK_12_227 : ia_tK (ia_P0 L xs fm) 12 227 = some (.ref 1000101) := rfl
theorem tK_12_229 : ia_tK (ia_P0 L xs fm) 12 229 = some (.ref 1000102) := rfl
theorem tK_12_231 : ia_tK (ia_P0 L xs fm) 12 231 = some (.ref 1000103) := rfl
theorem tK_12_138 : ia_tK (ia_P0 L xs fm) 12 138 = some (.long (-1000000)) := rfl
theorem tK_12_140 : ia_tK (ia_P0 L xs fm) 12 140 = some (.long (1000000)) := rfl
theorem tK_12_258 : ia_tK (ia_P0 L xs fm) 12 258 = some (.ref 1000105) := rfl
theorem tK_12_319 : ia_tK (ia_P0 L xs fm) 12 319 = some (.long (10)) := rfl
theorem tK_12_328 : ia_tK (ia_P0 L xs fm) 12 328 = some (.long (6)) := rfl
theorem tK_12_306 : ia_tK (ia_P0 L xs fm) 12 306 = some (.long (-1)) := rfl
theorem tK_12_367 : ia_tK (ia_P0 L xs fm) 12 367 = some (.long (60)) := rfl
theorem tK_12_369 : ia_tK (ia_P0 L xs fm) 12 369 = some (.long (3)) := rfl
theorem tK_12_389 : ia_tK (ia_P0 L xs fm) 12 389 = some (.int (-1000000)) := rfl
theorem tK_12_449 : ia_tK (ia_P0 L xs fm) 12 449 = some (.long (99)) := rfl
theorem tK_12_454 : ia_tK (ia_P0 L xs fm) 12 454 = some (.long (100)) := rfl
theorem tK_12_456 : ia_tK (ia_P0 L xs fm) 12 456 = some (.long (999)) := rfl
theorem tK_12_472 : ia_tK (ia_P0 L xs fm) 12 472 = some (.long (40)) := rfl
theorem tK_12_468 : ia_tK (ia_P0 L xs fm) 12 468 = some (.long (6364136223846793005)) := rfl
theorem tK_12_470 : ia_tK (ia_P0 L xs fm) 12 470 = some (.long (1442695040888963407)) := rfl
theorem tK_13_181 : ia_tK (ia_P0 L xs fm) 13 181 = some (.long (4294967295)) := rfl
theorem tS_900_38 : ia_tS (ia_P0 L xs fm) 900 38 = some (.int 1) := rfl
theorem tS_4_63 : ia_tS (ia_P0 L xs fm) 4 63 = some (.ref 1000001) := rfl
theorem tS_4_69 : ia_tS (ia_P0 L xs fm) 4 69 = some (.ref 1000002) := rfl
theorem tS_10_30 : ia_tS (ia_P0 L xs fm) 10 30 = some (.ref 1000003) := rfl
theorem tS_10_33 : ia_tS (ia_P0 L xs fm) 10 33 = some (.ref 1000002) := rfl
theorem tS_4_79 : ia_tS (ia_P0 L xs fm) 4 79 = some (.ref 1000007) := rfl
theorem tS_4_82 : ia_tS (ia_P0 L xs fm) 4 82 = some (.ref 1000004) := rfl
theorem tS_4_93 : ia_tS (ia_P0 L xs fm) 4 93 = some (.ref 1000005) := rfl
theorem tS_4_96 : ia_tS (ia_P0 L xs fm) 4 96 = some (.ref 1000006) := rfl
theorem tS_7_62 : ia_tS (ia_P0 L xs fm) 7 62 = some (.ref 1000001) := rfl
theorem tS_900_1053 : ia_tS (ia_P0 L xs fm) 900 1053 = some (zfm fm) := rfl
set_option maxRecDepth 20000 in
theorem mt_11000 : ia_mt (ia_P0 L xs fm) 11000 = some (11, yX11_init, cX11_init, 1, none, 0) := rfl
set_option maxRecDepth 20000 in
theorem mt_9000 : ia_mt (ia_P0 L xs fm) 9000 = some (9, yX9_init, cX9_init, 1, none, 0) := rfl
set_option maxRecDepth 20000 in
theorem mt_4000 : ia_mt (ia_P0 L xs fm) 4000 = some (4, yX4_init, cX4_init, 2, none, 1) := rfl
set_option maxRecDepth 20000 in
theorem mt_10000 : ia_mt (ia_P0 L xs fm) 10000 = some (10, yX10_init, cX10_init, 1, none, 0) := rfl
set_option maxRecDepth 20000 in
theorem mt_5000 : ia_mt (ia_P0 L xs fm) 5000 = some (5, yX5_init, cX5_init, 2, none, 1) := rfl
set_option maxRecDepth 20000 in
theorem mt_6000 : ia_mt (ia_P0 L xs fm) 6000 = some (6, yX6_init, cX6_init, 2, none, 1) := rfl
set_option maxRecDepth 20000 in
theorem mt_2000 : ia_mt (ia_P0 L xs fm) 2000 = some (2, yX2_init, cX2_init, 1, none, 0) := rfl
set_option maxRecDepth 20000 in
theorem mt_7000 : ia_mt (ia_P0 L xs fm) 7000 = some (7, yX7_init, cX7_init, 3, none, 2) := rfl
set_option maxRecDepth 20000 in
theorem mt_1000 : ia_mt (ia_P0 L xs fm) 1000 = some (1, yX1_init, cX1_init, 1, none, 0) := rfl
set_option maxRecDepth 20000 in
theorem mt_8000 : ia_mt (ia_P0 L xs fm) 8000 = some (8, yX8_init, cX8_init, 3, none, 2) := rfl
set_option maxRecDepth 20000 in
theorem mt_0 : ia_mt (ia_P0 L xs fm) 0 = some (0, yX0_init, cX0_init, 1, none, 0) := rfl
set_option maxRecDepth 20000 in
theorem mt_3000 : ia_mt (ia_P0 L xs fm) 3000 = some (3, yX3_init, cX3_init, 1, none, 0) := rfl
set_option maxRecDepth 20000 in
theorem mt_11001 : ia_mt (ia_P0 L xs fm) 11001 = some (11, yX11_feed, cX11_feed, 7, some .int, 5) := rfl
set_option maxRecDepth 20000 in
theorem mt_9001 : ia_mt (ia_P0 L xs fm) 9001 = some (9, yX9_bytesOf, cX9_bytesOf, 3, some .int, 1) := rfl
set_option maxRecDepth 20000 in
theorem mt_9002 : ia_mt (ia_P0 L xs fm) 9002 = some (9, yX9_add, cX9_add, 4, none, 1) := rfl
set_option maxRecDepth 20000 in
theorem mt_11002 : ia_mt (ia_P0 L xs fm) 11002 = some (11, yX11_end, cX11_end, 2, some .boolean, 1) := rfl
set_option maxRecDepth 20000 in
theorem mt_11003 : ia_mt (ia_P0 L xs fm) 11003 = some (11, yX11_fault, cX11_fault, 2, some .int, 1) := rfl
set_option maxRecDepth 20000 in
theorem mt_4001 : ia_mt (ia_P0 L xs fm) 4001 = some (4, yX4_firstWrong, cX4_firstWrong, 3, some .int, 0) := rfl
set_option maxRecDepth 20000 in
theorem mt_9003 : ia_mt (ia_P0 L xs fm) 9003 = some (9, yX9_rewind, cX9_rewind, 1, none, 0) := rfl
set_option maxRecDepth 20000 in
theorem mt_10001 : ia_mt (ia_P0 L xs fm) 10001 = some (10, yX10_clear, cX10_clear, 1, none, 0) := rfl
set_option maxRecDepth 20000 in
theorem mt_904000 : ia_mt (ia_P0 L xs fm) 904000 = some (904, yJ7_fill_53178, cJ7_fill_53178, 4, none, 2) := rfl
set_option maxRecDepth 20000 in
theorem mt_4002 : ia_mt (ia_P0 L xs fm) 4002 = some (4, yX4_readClause, cX4_readClause, 4, none, 0) := rfl
set_option maxRecDepth 20000 in
theorem mt_9004 : ia_mt (ia_P0 L xs fm) 9004 = some (9, yX9_sign, cX9_sign, 2, some .int, 0) := rfl
set_option maxRecDepth 20000 in
theorem mt_900000 : ia_mt (ia_P0 L xs fm) 900000 = some (900, yJ0_indexOf_0f7a4, cJ0_indexOf_0f7a4, 2, some .int, 1) := rfl
set_option maxRecDepth 20000 in
theorem mt_900001 : ia_mt (ia_P0 L xs fm) 900001 = some (900, yJ0_indexOf_7cf53, cJ0_indexOf_7cf53, 3, some .int, 2) := rfl
set_option maxRecDepth 20000 in
theorem mt_900002 : ia_mt (ia_P0 L xs fm) 900002 = some (900, yJ0_isLatin1_aae02, cJ0_isLatin1_aae02, 1, some .boolean, 0) := rfl
set_option maxRecDepth 20000 in
theorem mt_900003 : ia_mt (ia_P0 L xs fm) 900003 = some (900, yJ0_length_8abf5, cJ0_length_8abf5, 1, some .int, 0) := rfl
set_option maxRecDepth 20000 in
theorem mt_900004 : ia_mt (ia_P0 L xs fm) 900004 = some (900, yJ0_coder_7d493, cJ0_coder_7d493, 1, some .byte, 0) := rfl
set_option maxRecDepth 20000 in
theorem mt_901000 : ia_mt (ia_P0 L xs fm) 901000 = some (901, yJ1_indexOf_4cfef, cJ1_indexOf_4cfef, 4, some .int, 4) := rfl
set_option maxRecDepth 20000 in
theorem mt_901001 : ia_mt (ia_P0 L xs fm) 901001 = some (901, yJ1_canEncode_9a6ad, cJ1_canEncode_9a6ad, 1, some .boolean, 1) := rfl
set_option maxRecDepth 20000 in
theorem mt_901002 : ia_mt (ia_P0 L xs fm) 901002 = some (901, yJ1_indexOfChar_4cfef, cJ1_indexOfChar_4cfef, 6, some .int, 4) := rfl
set_option maxRecDepth 20000 in
theorem mt_900005 : ia_mt (ia_P0 L xs fm) 900005 = some (900, yJ0_checkBoundsBeginEnd_23922, cJ0_checkBoundsBeginEnd_23922, 3, none, 3) := rfl
set_option maxRecDepth 20000 in
theorem mt_905000 : ia_mt (ia_P0 L xs fm) 905000 = some (905, yJ3_checkFromToIndex_8c36e, cJ3_checkFromToIndex_8c36e, 4, some .int, 4) := rfl
set_option maxRecDepth 20000 in
theorem mt_9005 : ia_mt (ia_P0 L xs fm) 9005 = some (9, yX9_fail, cX9_fail, 1, none, 0) := rfl
set_option maxRecDepth 20000 in
theorem mt_10002 : ia_mt (ia_P0 L xs fm) 10002 = some (10, yX10_cellOf, cX10_cellOf, 3, some .int, 3) := rfl
set_option maxRecDepth 20000 in
theorem mt_4003 : ia_mt (ia_P0 L xs fm) 4003 = some (4, yX4_readItems, cX4_readItems, 9, none, 2) := rfl
set_option maxRecDepth 20000 in
theorem mt_4004 : ia_mt (ia_P0 L xs fm) 4004 = some (4, yX4_lettersOf, cX4_lettersOf, 1, some (.object "java/lang/String"), 1) := rfl
set_option maxRecDepth 20000 in
theorem mt_9006 : ia_mt (ia_P0 L xs fm) 9006 = some (9, yX9_number, cX9_number, 6, some .int, 3) := rfl
set_option maxRecDepth 20000 in
theorem mt_9007 : ia_mt (ia_P0 L xs fm) 9007 = some (9, yX9_isDigit, cX9_isDigit, 1, some .boolean, 1) := rfl
set_option maxRecDepth 20000 in
theorem mt_9008 : ia_mt (ia_P0 L xs fm) 9008 = some (9, yX9_takes, cX9_takes, 2, some .boolean, 1) := rfl
set_option maxRecDepth 20000 in
theorem mt_9009 : ia_mt (ia_P0 L xs fm) 9009 = some (9, yX9_needsEnd, cX9_needsEnd, 1, none, 0) := rfl
set_option maxRecDepth 20000 in
theorem mt_5001 : ia_mt (ia_P0 L xs fm) 5001 = some (5, yX5_firstWrong, cX5_firstWrong, 3, some .int, 0) := rfl
set_option maxRecDepth 20000 in
theorem mt_5002 : ia_mt (ia_P0 L xs fm) 5002 = some (5, yX5_readClause, cX5_readClause, 3, none, 0) := rfl
set_option maxRecDepth 20000 in
theorem mt_9010 : ia_mt (ia_P0 L xs fm) 9010 = some (9, yX9_needs, cX9_needs, 2, none, 1) := rfl
set_option maxRecDepth 20000 in
theorem mt_5003 : ia_mt (ia_P0 L xs fm) 5003 = some (5, yX5_readCondition, cX5_readCondition, 2, none, 1) := rfl
set_option maxRecDepth 20000 in
theorem mt_5004 : ia_mt (ia_P0 L xs fm) 5004 = some (5, yX5_readTruth, cX5_readTruth, 2, none, 1) := rfl
set_option maxRecDepth 20000 in
theorem mt_5005 : ia_mt (ia_P0 L xs fm) 5005 = some (5, yX5_readUnit, cX5_readUnit, 3, none, 1) := rfl
set_option maxRecDepth 20000 in
theorem mt_5006 : ia_mt (ia_P0 L xs fm) 5006 = some (5, yX5_enters, cX5_enters, 2, some .boolean, 1) := rfl
set_option maxRecDepth 20000 in
theorem mt_5007 : ia_mt (ia_P0 L xs fm) 5007 = some (5, yX5_put, cX5_put, 2, none, 1) := rfl
set_option maxRecDepth 20000 in
theorem mt_5008 : ia_mt (ia_P0 L xs fm) 5008 = some (5, yX5_readSum, cX5_readSum, 4, none, 1) := rfl
set_option maxRecDepth 20000 in
theorem mt_5009 : ia_mt (ia_P0 L xs fm) 5009 = some (5, yX5_readTerm, cX5_readTerm, 4, none, 1) := rfl
set_option maxRecDepth 20000 in
theorem mt_5010 : ia_mt (ia_P0 L xs fm) 5010 = some (5, yX5_readAtom, cX5_readAtom, 4, none, 1) := rfl
set_option maxRecDepth 20000 in
theorem mt_5011 : ia_mt (ia_P0 L xs fm) 5011 = some (5, yX5_readRelation, cX5_readRelation, 3, none, 1) := rfl
set_option maxRecDepth 20000 in
theorem mt_5012 : ia_mt (ia_P0 L xs fm) 5012 = some (5, yX5_isRelation, cX5_isRelation, 1, some .boolean, 1) := rfl
set_option maxRecDepth 20000 in
theorem mt_5013 : ia_mt (ia_P0 L xs fm) 5013 = some (5, yX5_readMoreUnits, cX5_readMoreUnits, 3, none, 1) := rfl
set_option maxRecDepth 20000 in
theorem mt_5014 : ia_mt (ia_P0 L xs fm) 5014 = some (5, yX5_readMoreTruths, cX5_readMoreTruths, 3, none, 1) := rfl
set_option maxRecDepth 20000 in
theorem mt_6001 : ia_mt (ia_P0 L xs fm) 6001 = some (6, yX6_firstWrong, cX6_firstWrong, 3, some .int, 0) := rfl
set_option maxRecDepth 20000 in
theorem mt_6002 : ia_mt (ia_P0 L xs fm) 6002 = some (6, yX6_readStep, cX6_readStep, 4, some .int, 0) := rfl
set_option maxRecDepth 20000 in
theorem mt_9011 : ia_mt (ia_P0 L xs fm) 9011 = some (9, yX9_digit, cX9_digit, 2, some .int, 0) := rfl
set_option maxRecDepth 20000 in
theorem mt_11004 : ia_mt (ia_P0 L xs fm) 11004 = some (11, yX11_text, cX11_text, 2, some .int, 1) := rfl
set_option maxRecDepth 20000 in
theorem mt_11005 : ia_mt (ia_P0 L xs fm) 11005 = some (11, yX11_keepKitchen, cX11_keepKitchen, 1, some .int, 0) := rfl
set_option maxRecDepth 20000 in
theorem mt_10003 : ia_mt (ia_P0 L xs fm) 10003 = some (10, yX10_take, cX10_take, 2, none, 1) := rfl
set_option maxRecDepth 20000 in
theorem mt_7001 : ia_mt (ia_P0 L xs fm) 7001 = some (7, yX7_restart, cX7_restart, 3, none, 0) := rfl
set_option maxRecDepth 20000 in
theorem mt_10004 : ia_mt (ia_P0 L xs fm) 10004 = some (10, yX10_item, cX10_item, 4, some .int, 3) := rfl
set_option maxRecDepth 20000 in
theorem mt_7002 : ia_mt (ia_P0 L xs fm) 7002 = some (7, yX7_setHand, cX7_setHand, 4, none, 3) := rfl
set_option maxRecDepth 20000 in
theorem mt_1001 : ia_mt (ia_P0 L xs fm) 1001 = some (1, yX1_clear, cX1_clear, 1, none, 0) := rfl
set_option maxRecDepth 20000 in
theorem mt_3001 : ia_mt (ia_P0 L xs fm) 3001 = some (3, yX3_clear, cX3_clear, 1, none, 0) := rfl
set_option maxRecDepth 20000 in
theorem mt_11006 : ia_mt (ia_P0 L xs fm) 11006 = some (11, yX11_keepLaw, cX11_keepLaw, 1, some .int, 0) := rfl
set_option maxRecDepth 20000 in
theorem mt_904001 : ia_mt (ia_P0 L xs fm) 904001 = some (904, yJ7_copyOf_59c91, cJ7_copyOf_59c91, 3, some (.array .int), 2) := rfl
set_option maxRecDepth 20000 in
theorem mt_11007 : ia_mt (ia_P0 L xs fm) 11007 = some (11, yX11_keepPlan, cX11_keepPlan, 1, some .int, 0) := rfl
set_option maxRecDepth 20000 in
theorem mt_11008 : ia_mt (ia_P0 L xs fm) 11008 = some (11, yX11_hand, cX11_hand, 3, some .int, 2) := rfl
set_option maxRecDepth 20000 in
theorem mt_11009 : ia_mt (ia_P0 L xs fm) 11009 = some (11, yX11_isHand, cX11_isHand, 2, some .boolean, 1) := rfl
set_option maxRecDepth 20000 in
theorem mt_7003 : ia_mt (ia_P0 L xs fm) 7003 = some (7, yX7_handCell, cX7_handCell, 3, some .int, 2) := rfl
set_option maxRecDepth 20000 in
theorem mt_7004 : ia_mt (ia_P0 L xs fm) 7004 = some (7, yX7_loosened, cX7_loosened, 2, some .int, 1) := rfl
set_option maxRecDepth 20000 in
theorem mt_7005 : ia_mt (ia_P0 L xs fm) 7005 = some (7, yX7_loosenedCell, cX7_loosenedCell, 2, some .int, 1) := rfl
set_option maxRecDepth 20000 in
theorem mt_11010 : ia_mt (ia_P0 L xs fm) 11010 = some (11, yX11_tool, cX11_tool, 3, some .int, 2) := rfl
set_option maxRecDepth 20000 in
theorem mt_11011 : ia_mt (ia_P0 L xs fm) 11011 = some (11, yX11_isTool, cX11_isTool, 2, some .boolean, 1) := rfl
set_option maxRecDepth 20000 in
theorem mt_11012 : ia_mt (ia_P0 L xs fm) 11012 = some (11, yX11_law, cX11_law, 2, some .boolean, 1) := rfl
set_option maxRecDepth 20000 in
theorem mt_11013 : ia_mt (ia_P0 L xs fm) 11013 = some (11, yX11_step, cX11_step, 4, some .int, 2) := rfl
set_option maxRecDepth 20000 in
theorem mt_11014 : ia_mt (ia_P0 L xs fm) 11014 = some (11, yX11_stepsOf, cX11_stepsOf, 2, some (.array .int), 1) := rfl
set_option maxRecDepth 20000 in
theorem mt_11015 : ia_mt (ia_P0 L xs fm) 11015 = some (11, yX11_grip, cX11_grip, 4, some .int, 3) := rfl
set_option maxRecDepth 20000 in
theorem mt_11016 : ia_mt (ia_P0 L xs fm) 11016 = some (11, yX11_isJar, cX11_isJar, 2, some .boolean, 1) := rfl
set_option maxRecDepth 20000 in
theorem mt_7006 : ia_mt (ia_P0 L xs fm) 7006 = some (7, yX7_gripOn, cX7_gripOn, 6, some .int, 3) := rfl
set_option maxRecDepth 20000 in
theorem mt_7007 : ia_mt (ia_P0 L xs fm) 7007 = some (7, yX7_jarCell, cX7_jarCell, 3, some .int, 2) := rfl
set_option maxRecDepth 20000 in
theorem mt_2001 : ia_mt (ia_P0 L xs fm) 2001 = some (2, yX2_plainWorth, cX2_plainWorth, 2, some .int, 0) := rfl
set_option maxRecDepth 20000 in
theorem mt_2002 : ia_mt (ia_P0 L xs fm) 2002 = some (2, yX2_lawWorth, cX2_lawWorth, 6, some .int, 1) := rfl
set_option maxRecDepth 20000 in
theorem mt_2003 : ia_mt (ia_P0 L xs fm) 2003 = some (2, yX2_valueOf, cX2_valueOf, 3, some .int, 1) := rfl
set_option maxRecDepth 20000 in
theorem mt_2004 : ia_mt (ia_P0 L xs fm) 2004 = some (2, yX2_joined, cX2_joined, 5, some .int, 3) := rfl
set_option maxRecDepth 20000 in
theorem mt_11017 : ia_mt (ia_P0 L xs fm) 11017 = some (11, yX11_lacks, cX11_lacks, 4, some .int, 3) := rfl
set_option maxRecDepth 20000 in
theorem mt_7008 : ia_mt (ia_P0 L xs fm) 7008 = some (7, yX7_isClosed, cX7_isClosed, 2, some .boolean, 1) := rfl
set_option maxRecDepth 20000 in
theorem mt_7009 : ia_mt (ia_P0 L xs fm) 7009 = some (7, yX7_hold, cX7_hold, 2, some .int, 1) := rfl
set_option maxRecDepth 20000 in
theorem mt_11018 : ia_mt (ia_P0 L xs fm) 11018 = some (11, yX11_turn, cX11_turn, 5, some .int, 3) := rfl
set_option maxRecDepth 20000 in
theorem mt_11019 : ia_mt (ia_P0 L xs fm) 11019 = some (11, yX11_lidIsShut, cX11_lidIsShut, 1, some .boolean, 0) := rfl
set_option maxRecDepth 20000 in
theorem mt_7010 : ia_mt (ia_P0 L xs fm) 7010 = some (7, yX7_onTable, cX7_onTable, 1, some .int, 0) := rfl
set_option maxRecDepth 20000 in
theorem mt_11020 : ia_mt (ia_P0 L xs fm) 11020 = some (11, yX11_tryCode, cX11_tryCode, 2, some .int, 2) := rfl
set_option maxRecDepth 20000 in
theorem mt_1002 : ia_mt (ia_P0 L xs fm) 1002 = some (1, yX1_keep, cX1_keep, 2, none, 1) := rfl
set_option maxRecDepth 20000 in
theorem mt_7011 : ia_mt (ia_P0 L xs fm) 7011 = some (7, yX7_tryLid, cX7_tryLid, 4, none, 2) := rfl
set_option maxRecDepth 20000 in
theorem mt_7012 : ia_mt (ia_P0 L xs fm) 7012 = some (7, yX7_setLid, cX7_setLid, 3, none, 2) := rfl
set_option maxRecDepth 20000 in
theorem mt_7013 : ia_mt (ia_P0 L xs fm) 7013 = some (7, yX7_lid, cX7_lid, 2, some .int, 1) := rfl
set_option maxRecDepth 20000 in
theorem mt_7014 : ia_mt (ia_P0 L xs fm) 7014 = some (7, yX7_lessenLid, cX7_lessenLid, 3, none, 2) := rfl
set_option maxRecDepth 20000 in
theorem mt_7015 : ia_mt (ia_P0 L xs fm) 7015 = some (7, yX7_tire, cX7_tire, 2, none, 1) := rfl
set_option maxRecDepth 20000 in
theorem mt_7016 : ia_mt (ia_P0 L xs fm) 7016 = some (7, yX7_tryWrongSide, cX7_tryWrongSide, 2, none, 1) := rfl
set_option maxRecDepth 20000 in
theorem mt_7017 : ia_mt (ia_P0 L xs fm) 7017 = some (7, yX7_minute, cX7_minute, 1, some .int, 0) := rfl
set_option maxRecDepth 20000 in
theorem mt_1003 : ia_mt (ia_P0 L xs fm) 1003 = some (1, yX1_note, cX1_note, 3, none, 2) := rfl
set_option maxRecDepth 20000 in
theorem mt_11021 : ia_mt (ia_P0 L xs fm) 11021 = some (11, yX11_heat, cX11_heat, 2, some .int, 1) := rfl
set_option maxRecDepth 20000 in
theorem mt_7018 : ia_mt (ia_P0 L xs fm) 7018 = some (7, yX7_warm, cX7_warm, 2, none, 1) := rfl
set_option maxRecDepth 20000 in
theorem mt_11022 : ia_mt (ia_P0 L xs fm) 11022 = some (11, yX11_work, cX11_work, 2, some .int, 1) := rfl
set_option maxRecDepth 20000 in
theorem mt_7019 : ia_mt (ia_P0 L xs fm) 7019 = some (7, yX7_chill, cX7_chill, 1, none, 0) := rfl
set_option maxRecDepth 20000 in
theorem mt_7020 : ia_mt (ia_P0 L xs fm) 7020 = some (7, yX7_act, cX7_act, 4, none, 1) := rfl
set_option maxRecDepth 20000 in
theorem mt_7021 : ia_mt (ia_P0 L xs fm) 7021 = some (7, yX7_rest, cX7_rest, 4, none, 1) := rfl
set_option maxRecDepth 20000 in
theorem mt_7022 : ia_mt (ia_P0 L xs fm) 7022 = some (7, yX7_workOnLid, cX7_workOnLid, 2, none, 1) := rfl
set_option maxRecDepth 20000 in
theorem mt_11023 : ia_mt (ia_P0 L xs fm) 11023 = some (11, yX11_dry, cX11_dry, 2, some .boolean, 1) := rfl
set_option maxRecDepth 20000 in
theorem mt_11024 : ia_mt (ia_P0 L xs fm) 11024 = some (11, yX11_pause, cX11_pause, 2, some .int, 1) := rfl
set_option maxRecDepth 20000 in
theorem mt_11025 : ia_mt (ia_P0 L xs fm) 11025 = some (11, yX11_shut, cX11_shut, 2, some .int, 1) := rfl
set_option maxRecDepth 20000 in
theorem mt_7023 : ia_mt (ia_P0 L xs fm) 7023 = some (7, yX7_close, cX7_close, 3, none, 1) := rfl
set_option maxRecDepth 20000 in
theorem mt_11026 : ia_mt (ia_P0 L xs fm) 11026 = some (11, yX11_table, cX11_table, 2, some .boolean, 1) := rfl
set_option maxRecDepth 20000 in
theorem mt_11027 : ia_mt (ia_P0 L xs fm) 11027 = some (11, yX11_undo, cX11_undo, 1, some .int, 0) := rfl
set_option maxRecDepth 20000 in
theorem mt_1004 : ia_mt (ia_P0 L xs fm) 1004 = some (1, yX1_takeBack, cX1_takeBack, 2, some .int, 1) := rfl
set_option maxRecDepth 20000 in
theorem mt_11028 : ia_mt (ia_P0 L xs fm) 11028 = some (11, yX11_soonest, cX11_soonest, 6, some .int, 3) := rfl
set_option maxRecDepth 20000 in
theorem mt_8001 : ia_mt (ia_P0 L xs fm) 8001 = some (8, yX8_prepare, cX8_prepare, 2, none, 1) := rfl
set_option maxRecDepth 20000 in
theorem mt_8002 : ia_mt (ia_P0 L xs fm) 8002 = some (8, yX8_listActs, cX8_listActs, 4, none, 1) := rfl
set_option maxRecDepth 20000 in
theorem mt_8003 : ia_mt (ia_P0 L xs fm) 8003 = some (8, yX8_addAct, cX8_addAct, 2, none, 1) := rfl
set_option maxRecDepth 20000 in
theorem mt_8004 : ia_mt (ia_P0 L xs fm) 8004 = some (8, yX8_firstOf, cX8_firstOf, 5, some .int, 2) := rfl
set_option maxRecDepth 20000 in
theorem mt_7024 : ia_mt (ia_P0 L xs fm) 7024 = some (7, yX7_take, cX7_take, 2, none, 1) := rfl
set_option maxRecDepth 20000 in
theorem mt_8005 : ia_mt (ia_P0 L xs fm) 8005 = some (8, yX8_opensByTry, cX8_opensByTry, 4, some .boolean, 1) := rfl
set_option maxRecDepth 20000 in
theorem mt_8006 : ia_mt (ia_P0 L xs fm) 8006 = some (8, yX8_greatestGrip, cX8_greatestGrip, 8, some .int, 2) := rfl
set_option maxRecDepth 20000 in
theorem mt_8007 : ia_mt (ia_P0 L xs fm) 8007 = some (8, yX8_opensInTwo, cX8_opensInTwo, 3, some .boolean, 1) := rfl
set_option maxRecDepth 20000 in
theorem mt_11029 : ia_mt (ia_P0 L xs fm) 11029 = some (11, yX11_order, cX11_order, 2, some .int, 1) := rfl
set_option maxRecDepth 20000 in
theorem mt_1 : ia_mt (ia_P0 L xs fm) 1 = some (0, yX0_gather, cX0_gather, 3, none, 1) := rfl
set_option maxRecDepth 20000 in
theorem mt_2 : ia_mt (ia_P0 L xs fm) 2 = some (0, yX0_findsOrder, cX0_findsOrder, 3, some .boolean, 0) := rfl
set_option maxRecDepth 20000 in
theorem mt_3 : ia_mt (ia_P0 L xs fm) 3 = some (0, yX0_orderOf, cX0_orderOf, 8, some .int, 4) := rfl
set_option maxRecDepth 20000 in
theorem mt_4 : ia_mt (ia_P0 L xs fm) 4 = some (0, yX0_stuckBehind, cX0_stuckBehind, 3, some .int, 2) := rfl
set_option maxRecDepth 20000 in
theorem mt_5 : ia_mt (ia_P0 L xs fm) 5 = some (0, yX0_filled, cX0_filled, 5, some .int, 2) := rfl
set_option maxRecDepth 20000 in
theorem mt_11030 : ia_mt (ia_P0 L xs fm) 11030 = some (11, yX11_run, cX11_run, 5, some .int, 2) := rfl
set_option maxRecDepth 20000 in
theorem mt_11031 : ia_mt (ia_P0 L xs fm) 11031 = some (11, yX11_rehearse, cX11_rehearse, 4, some .int, 1) := rfl
set_option maxRecDepth 20000 in
theorem mt_7025 : ia_mt (ia_P0 L xs fm) 7025 = some (7, yX7_can, cX7_can, 3, some .boolean, 1) := rfl
set_option maxRecDepth 20000 in
theorem mt_11032 : ia_mt (ia_P0 L xs fm) 11032 = some (11, yX11_best, cX11_best, 8, some .int, 1) := rfl
set_option maxRecDepth 20000 in
theorem mt_11033 : ia_mt (ia_P0 L xs fm) 11033 = some (11, yX11_hasHole, cX11_hasHole, 3, some .boolean, 2) := rfl
set_option maxRecDepth 20000 in
theorem mt_11034 : ia_mt (ia_P0 L xs fm) 11034 = some (11, yX11_opens, cX11_opens, 2, some .int, 1) := rfl
set_option maxRecDepth 20000 in
theorem mt_6 : ia_mt (ia_P0 L xs fm) 6 = some (0, yX0_canOpen, cX0_canOpen, 4, some .boolean, 1) := rfl
set_option maxRecDepth 20000 in
theorem mt_11035 : ia_mt (ia_P0 L xs fm) 11035 = some (11, yX11_share, cX11_share, 2, some .int, 1) := rfl
set_option maxRecDepth 20000 in
theorem mt_7 : ia_mt (ia_P0 L xs fm) 7 = some (0, yX0_ordersDecidedBy, cX0_ordersDecidedBy, 5, some .int, 1) := rfl
set_option maxRecDepth 20000 in
theorem mt_903000 : ia_mt (ia_P0 L xs fm) 903000 = some (903, yJ6_bitCount_0f7a4, cJ6_bitCount_0f7a4, 1, some .int, 1) := rfl
set_option maxRecDepth 20000 in
theorem mt_8 : ia_mt (ia_P0 L xs fm) 8 = some (0, yX0_factorial, cX0_factorial, 3, some .int, 1) := rfl
set_option maxRecDepth 20000 in
theorem mt_11036 : ia_mt (ia_P0 L xs fm) 11036 = some (11, yX11_cheapest, cX11_cheapest, 6, some .int, 1) := rfl
set_option maxRecDepth 20000 in
theorem mt_7026 : ia_mt (ia_P0 L xs fm) 7026 = some (7, yX7_wouldOpen, cX7_wouldOpen, 3, some .boolean, 2) := rfl
set_option maxRecDepth 20000 in
theorem mt_11037 : ia_mt (ia_P0 L xs fm) 11037 = some (11, yX11_safe, cX11_safe, 2, some .int, 0) := rfl
set_option maxRecDepth 20000 in
theorem mt_11038 : ia_mt (ia_P0 L xs fm) 11038 = some (11, yX11_enough, cX11_enough, 4, some .int, 2) := rfl
set_option maxRecDepth 20000 in
theorem mt_11039 : ia_mt (ia_P0 L xs fm) 11039 = some (11, yX11_saves, cX11_saves, 6, some .int, 2) := rfl
set_option maxRecDepth 20000 in
theorem mt_11040 : ia_mt (ia_P0 L xs fm) 11040 = some (11, yX11_pairsSaved, cX11_pairsSaved, 6, some .int, 1) := rfl
set_option maxRecDepth 20000 in
theorem mt_11041 : ia_mt (ia_P0 L xs fm) 11041 = some (11, yX11_commonDivisor, cX11_commonDivisor, 6, some .int, 2) := rfl
set_option maxRecDepth 20000 in
theorem mt_11042 : ia_mt (ia_P0 L xs fm) 11042 = some (11, yX11_openers, cX11_openers, 3, some .int, 2) := rfl
set_option maxRecDepth 20000 in
theorem mt_11043 : ia_mt (ia_P0 L xs fm) 11043 = some (11, yX11_openersOf, cX11_openersOf, 5, some .int, 2) := rfl
set_option maxRecDepth 20000 in
theorem mt_11044 : ia_mt (ia_P0 L xs fm) 11044 = some (11, yX11_factory, cX11_factory, 5, some .int, 3) := rfl
set_option maxRecDepth 20000 in
theorem mt_11045 : ia_mt (ia_P0 L xs fm) 11045 = some (11, yX11_tried, cX11_tried, 3, some .int, 2) := rfl
set_option maxRecDepth 20000 in
theorem mt_3002 : ia_mt (ia_P0 L xs fm) 3002 = some (3, yX3_adds, cX3_adds, 3, some .boolean, 2) := rfl
set_option maxRecDepth 20000 in
theorem mt_11046 : ia_mt (ia_P0 L xs fm) 11046 = some (11, yX11_forgive, cX11_forgive, 1, some .boolean, 0) := rfl
set_option maxRecDepth 20000 in
theorem mt_11047 : ia_mt (ia_P0 L xs fm) 11047 = some (11, yX11_tight, cX11_tight, 2, some .int, 1) := rfl
set_option maxRecDepth 20000 in
theorem mt_3003 : ia_mt (ia_P0 L xs fm) 3003 = some (3, yX3_holdsOpenedBy, cX3_holdsOpenedBy, 5, some .int, 1) := rfl
set_option maxRecDepth 20000 in
theorem mt_3004 : ia_mt (ia_P0 L xs fm) 3004 = some (3, yX3_holdNow, cX3_holdNow, 5, some .int, 1) := rfl
set_option maxRecDepth 20000 in
theorem mt_3005 : ia_mt (ia_P0 L xs fm) 3005 = some (3, yX3_least, cX3_least, 2, some .int, 0) := rfl
set_option maxRecDepth 20000 in
theorem mt_3006 : ia_mt (ia_P0 L xs fm) 3006 = some (3, yX3_greatest, cX3_greatest, 2, some .int, 0) := rfl
set_option maxRecDepth 20000 in
theorem mt_11048 : ia_mt (ia_P0 L xs fm) 11048 = some (11, yX11_next, cX11_next, 2, some .int, 1) := rfl
set_option maxRecDepth 20000 in
theorem mt_11049 : ia_mt (ia_P0 L xs fm) 11049 = some (11, yX11_who, cX11_who, 6, some .int, 2) := rfl
set_option maxRecDepth 20000 in
theorem mt_11050 : ia_mt (ia_P0 L xs fm) 11050 = some (11, yX11_lefties, cX11_lefties, 3, some .int, 0) := rfl
set_option maxRecDepth 20000 in
theorem mt_11051 : ia_mt (ia_P0 L xs fm) 11051 = some (11, yX11_evening, cX11_evening, 10, some .int, 2) := rfl
set_option maxRecDepth 20000 in
theorem mt_11052 : ia_mt (ia_P0 L xs fm) 11052 = some (11, yX11_draw, cX11_draw, 2, some .int, 1) := rfl
set_option maxRecDepth 20000 in
theorem mt_11053 : ia_mt (ia_P0 L xs fm) 11053 = some (11, yX11_perform, cX11_perform, 5, some .int, 1) := rfl
set_option maxRecDepth 20000 in
theorem mt_11054 : ia_mt (ia_P0 L xs fm) 11054 = some (11, yX11_log, cX11_log, 3, some .int, 2) := rfl
set_option maxRecDepth 20000 in
theorem mt_1005 : ia_mt (ia_P0 L xs fm) 1005 = some (1, yX1_noteAt, cX1_noteAt, 4, some .int, 2) := rfl
set_option maxRecDepth 20000 in
theorem mt_11055 : ia_mt (ia_P0 L xs fm) 11055 = some (11, yX11_image, cX11_image, 1, some .int, 0) := rfl
set_option maxRecDepth 20000 in
theorem mt_1006 : ia_mt (ia_P0 L xs fm) 1006 = some (1, yX1_takeImage, cX1_takeImage, 2, none, 1) := rfl
set_option maxRecDepth 20000 in
theorem mt_11056 : ia_mt (ia_P0 L xs fm) 11056 = some (11, yX11_back, cX11_back, 1, some .int, 0) := rfl
set_option maxRecDepth 20000 in
theorem mt_1007 : ia_mt (ia_P0 L xs fm) 1007 = some (1, yX1_giveImage, cX1_giveImage, 2, none, 1) := rfl
set_option maxRecDepth 20000 in
theorem mt_11057 : ia_mt (ia_P0 L xs fm) 11057 = some (11, yX11_count, cX11_count, 2, some .int, 1) := rfl
set_option maxRecDepth 20000 in
theorem mt_11058 : ia_mt (ia_P0 L xs fm) 11058 = some (11, yX11_jar, cX11_jar, 3, some .int, 2) := rfl
set_option maxRecDepth 20000 in
theorem mt_12000 : ia_mt (ia_P0 L xs fm) 12000 = some (12, yX12_init, cX12_init, 1, none, 0) := rfl
set_option maxRecDepth 20000 in
theorem mt_12001 : ia_mt (ia_P0 L xs fm) 12001 = some (12, yX12_thrown, cX12_thrown, 1, some .int, 0) := rfl
set_option maxRecDepth 20000 in
theorem mt_12002 : ia_mt (ia_P0 L xs fm) 12002 = some (12, yX12_feed, cX12_feed, 6, some .int, 5) := rfl
set_option maxRecDepth 20000 in
theorem mt_12003 : ia_mt (ia_P0 L xs fm) 12003 = some (12, yX12_bytesIn, cX12_bytesIn, 3, some .int, 1) := rfl
set_option maxRecDepth 20000 in
theorem mt_12004 : ia_mt (ia_P0 L xs fm) 12004 = some (12, yX12_put, cX12_put, 3, none, 1) := rfl
set_option maxRecDepth 20000 in
theorem mt_12005 : ia_mt (ia_P0 L xs fm) 12005 = some (12, yX12_end, cX12_end, 2, some .boolean, 1) := rfl
set_option maxRecDepth 20000 in
theorem mt_12006 : ia_mt (ia_P0 L xs fm) 12006 = some (12, yX12_fault, cX12_fault, 2, some .int, 1) := rfl
set_option maxRecDepth 20000 in
theorem mt_12007 : ia_mt (ia_P0 L xs fm) 12007 = some (12, yX12_isIn, cX12_isIn, 6, some .boolean, 3) := rfl
set_option maxRecDepth 20000 in
theorem mt_12008 : ia_mt (ia_P0 L xs fm) 12008 = some (12, yX12_readKitchen, cX12_readKitchen, 2, none, 0) := rfl
set_option maxRecDepth 20000 in
theorem mt_12009 : ia_mt (ia_P0 L xs fm) 12009 = some (12, yX12_starts, cX12_starts, 4, none, 3) := rfl
set_option maxRecDepth 20000 in
theorem mt_12010 : ia_mt (ia_P0 L xs fm) 12010 = some (12, yX12_readClause, cX12_readClause, 8, none, 0) := rfl
set_option maxRecDepth 20000 in
theorem mt_12011 : ia_mt (ia_P0 L xs fm) 12011 = some (12, yX12_look, cX12_look, 1, some .int, 0) := rfl
set_option maxRecDepth 20000 in
theorem mt_12012 : ia_mt (ia_P0 L xs fm) 12012 = some (12, yX12_fails, cX12_fails, 1, some .boolean, 0) := rfl
set_option maxRecDepth 20000 in
theorem mt_12013 : ia_mt (ia_P0 L xs fm) 12013 = some (12, yX12_usual, cX12_usual, 2, some .int, 2) := rfl
set_option maxRecDepth 20000 in
theorem mt_12014 : ia_mt (ia_P0 L xs fm) 12014 = some (12, yX12_placeOf, cX12_placeOf, 3, some .int, 2) := rfl
set_option maxRecDepth 20000 in
theorem mt_900006 : ia_mt (ia_P0 L xs fm) 900006 = some (900, yJ0_charAt_5068e, cJ0_charAt_5068e, 2, some .char, 1) := rfl
set_option maxRecDepth 20000 in
theorem mt_901003 : ia_mt (ia_P0 L xs fm) 901003 = some (901, yJ1_charAt_3b067, cJ1_charAt_3b067, 2, some .char, 2) := rfl
set_option maxRecDepth 20000 in
theorem mt_900007 : ia_mt (ia_P0 L xs fm) 900007 = some (900, yJ0_checkIndex_df160, cJ0_checkIndex_df160, 2, none, 2) := rfl
set_option maxRecDepth 20000 in
theorem mt_905001 : ia_mt (ia_P0 L xs fm) 905001 = some (905, yJ3_checkIndex_8e157, cJ3_checkIndex_8e157, 3, some .int, 3) := rfl
set_option maxRecDepth 20000 in
theorem mt_12015 : ia_mt (ia_P0 L xs fm) 12015 = some (12, yX12_has, cX12_has, 2, some .boolean, 2) := rfl
set_option maxRecDepth 20000 in
theorem mt_12016 : ia_mt (ia_P0 L xs fm) 12016 = some (12, yX12_leastOf, cX12_leastOf, 2, some .int, 2) := rfl
set_option maxRecDepth 20000 in
theorem mt_12017 : ia_mt (ia_P0 L xs fm) 12017 = some (12, yX12_mostOf, cX12_mostOf, 2, some .int, 2) := rfl
set_option maxRecDepth 20000 in
theorem mt_12018 : ia_mt (ia_P0 L xs fm) 12018 = some (12, yX12_readItem, cX12_readItem, 7, none, 4) := rfl
set_option maxRecDepth 20000 in
theorem mt_12019 : ia_mt (ia_P0 L xs fm) 12019 = some (12, yX12_isDigit, cX12_isDigit, 1, some .boolean, 0) := rfl
set_option maxRecDepth 20000 in
theorem mt_12020 : ia_mt (ia_P0 L xs fm) 12020 = some (12, yX12_here, cX12_here, 1, some .int, 0) := rfl
set_option maxRecDepth 20000 in
theorem mt_12021 : ia_mt (ia_P0 L xs fm) 12021 = some (12, yX12_goThrough, cX12_goThrough, 4, none, 3) := rfl
set_option maxRecDepth 20000 in
theorem mt_12022 : ia_mt (ia_P0 L xs fm) 12022 = some (12, yX12_clause, cX12_clause, 5, none, 0) := rfl
set_option maxRecDepth 20000 in
theorem mt_12023 : ia_mt (ia_P0 L xs fm) 12023 = some (12, yX12_isAmong, cX12_isAmong, 3, some .boolean, 2) := rfl
set_option maxRecDepth 20000 in
theorem mt_12024 : ia_mt (ia_P0 L xs fm) 12024 = some (12, yX12_takes, cX12_takes, 2, some .boolean, 1) := rfl
set_option maxRecDepth 20000 in
theorem mt_12025 : ia_mt (ia_P0 L xs fm) 12025 = some (12, yX12_condition, cX12_condition, 5, some .boolean, 2) := rfl
set_option maxRecDepth 20000 in
theorem mt_12026 : ia_mt (ia_P0 L xs fm) 12026 = some (12, yX12_part, cX12_part, 5, some .boolean, 2) := rfl
set_option maxRecDepth 20000 in
theorem mt_12027 : ia_mt (ia_P0 L xs fm) 12027 = some (12, yX12_compares, cX12_compares, 6, some .boolean, 2) := rfl
set_option maxRecDepth 20000 in
theorem mt_12028 : ia_mt (ia_P0 L xs fm) 12028 = some (12, yX12_sum, cX12_sum, 5, some .int, 0) := rfl
set_option maxRecDepth 20000 in
theorem mt_12029 : ia_mt (ia_P0 L xs fm) 12029 = some (12, yX12_term, cX12_term, 5, some .int, 0) := rfl
set_option maxRecDepth 20000 in
theorem mt_12030 : ia_mt (ia_P0 L xs fm) 12030 = some (12, yX12_atom, cX12_atom, 4, some .int, 0) := rfl
set_option maxRecDepth 20000 in
theorem mt_12031 : ia_mt (ia_P0 L xs fm) 12031 = some (12, yX12_goesIn, cX12_goesIn, 1, some .boolean, 0) := rfl
set_option maxRecDepth 20000 in
theorem mt_12032 : ia_mt (ia_P0 L xs fm) 12032 = some (12, yX12_within, cX12_within, 2, some .int, 1) := rfl
set_option maxRecDepth 20000 in
theorem mt_12033 : ia_mt (ia_P0 L xs fm) 12033 = some (12, yX12_isSign, cX12_isSign, 1, some .boolean, 1) := rfl
set_option maxRecDepth 20000 in
theorem mt_12034 : ia_mt (ia_P0 L xs fm) 12034 = some (12, yX12_unit, cX12_unit, 3, some .boolean, 0) := rfl
set_option maxRecDepth 20000 in
theorem mt_12035 : ia_mt (ia_P0 L xs fm) 12035 = some (12, yX12_readPlan, cX12_readPlan, 3, none, 0) := rfl
set_option maxRecDepth 20000 in
theorem mt_12036 : ia_mt (ia_P0 L xs fm) 12036 = some (12, yX12_readStep, cX12_readStep, 4, some .int, 0) := rfl
set_option maxRecDepth 20000 in
theorem mt_12037 : ia_mt (ia_P0 L xs fm) 12037 = some (12, yX12_digit, cX12_digit, 1, some .int, 0) := rfl
set_option maxRecDepth 20000 in
theorem mt_12038 : ia_mt (ia_P0 L xs fm) 12038 = some (12, yX12_text, cX12_text, 5, some .int, 1) := rfl
set_option maxRecDepth 20000 in
theorem mt_12039 : ia_mt (ia_P0 L xs fm) 12039 = some (12, yX12_jar, cX12_jar, 3, some .int, 2) := rfl
set_option maxRecDepth 20000 in
theorem mt_12040 : ia_mt (ia_P0 L xs fm) 12040 = some (12, yX12_isJar, cX12_isJar, 2, some .boolean, 1) := rfl
set_option maxRecDepth 20000 in
theorem mt_12041 : ia_mt (ia_P0 L xs fm) 12041 = some (12, yX12_holdOf, cX12_holdOf, 2, some .int, 2) := rfl
set_option maxRecDepth 20000 in
theorem mt_12042 : ia_mt (ia_P0 L xs fm) 12042 = some (12, yX12_hand, cX12_hand, 3, some .int, 2) := rfl
set_option maxRecDepth 20000 in
theorem mt_12043 : ia_mt (ia_P0 L xs fm) 12043 = some (12, yX12_isHand, cX12_isHand, 2, some .boolean, 1) := rfl
set_option maxRecDepth 20000 in
theorem mt_12044 : ia_mt (ia_P0 L xs fm) 12044 = some (12, yX12_tool, cX12_tool, 3, some .int, 2) := rfl
set_option maxRecDepth 20000 in
theorem mt_12045 : ia_mt (ia_P0 L xs fm) 12045 = some (12, yX12_law, cX12_law, 2, some .boolean, 1) := rfl
set_option maxRecDepth 20000 in
theorem mt_12046 : ia_mt (ia_P0 L xs fm) 12046 = some (12, yX12_step, cX12_step, 3, some .int, 2) := rfl
set_option maxRecDepth 20000 in
theorem mt_12047 : ia_mt (ia_P0 L xs fm) 12047 = some (12, yX12_grip, cX12_grip, 4, some .int, 3) := rfl
set_option maxRecDepth 20000 in
theorem mt_12048 : ia_mt (ia_P0 L xs fm) 12048 = some (12, yX12_isTool, cX12_isTool, 2, some .boolean, 1) := rfl
set_option maxRecDepth 20000 in
theorem mt_12049 : ia_mt (ia_P0 L xs fm) 12049 = some (12, yX12_gripOf, cX12_gripOf, 5, some .int, 4) := rfl
set_option maxRecDepth 20000 in
theorem mt_12050 : ia_mt (ia_P0 L xs fm) 12050 = some (12, yX12_gripBy, cX12_gripBy, 8, some .int, 6) := rfl
set_option maxRecDepth 20000 in
theorem mt_12051 : ia_mt (ia_P0 L xs fm) 12051 = some (12, yX12_lacks, cX12_lacks, 4, some .int, 3) := rfl
set_option maxRecDepth 20000 in
theorem mt_12052 : ia_mt (ia_P0 L xs fm) 12052 = some (12, yX12_turn, cX12_turn, 4, some .int, 3) := rfl
set_option maxRecDepth 20000 in
theorem mt_12053 : ia_mt (ia_P0 L xs fm) 12053 = some (12, yX12_isDone, cX12_isDone, 1, some .boolean, 1) := rfl
set_option maxRecDepth 20000 in
theorem mt_12054 : ia_mt (ia_P0 L xs fm) 12054 = some (12, yX12_remember, cX12_remember, 2, none, 0) := rfl
set_option maxRecDepth 20000 in
theorem mt_12055 : ia_mt (ia_P0 L xs fm) 12055 = some (12, yX12_turns, cX12_turns, 10, none, 5) := rfl
set_option maxRecDepth 20000 in
theorem mt_12056 : ia_mt (ia_P0 L xs fm) 12056 = some (12, yX12_writes, cX12_writes, 3, none, 1) := rfl
set_option maxRecDepth 20000 in
theorem mt_12057 : ia_mt (ia_P0 L xs fm) 12057 = some (12, yX12_heat, cX12_heat, 2, some .int, 1) := rfl
set_option maxRecDepth 20000 in
theorem mt_12058 : ia_mt (ia_P0 L xs fm) 12058 = some (12, yX12_canWork, cX12_canWork, 1, some .boolean, 0) := rfl
set_option maxRecDepth 20000 in
theorem mt_12059 : ia_mt (ia_P0 L xs fm) 12059 = some (12, yX12_heats, cX12_heats, 5, none, 2) := rfl
set_option maxRecDepth 20000 in
theorem mt_12060 : ia_mt (ia_P0 L xs fm) 12060 = some (12, yX12_work, cX12_work, 2, some .int, 1) := rfl
set_option maxRecDepth 20000 in
theorem mt_12061 : ia_mt (ia_P0 L xs fm) 12061 = some (12, yX12_works, cX12_works, 4, none, 2) := rfl
set_option maxRecDepth 20000 in
theorem mt_12062 : ia_mt (ia_P0 L xs fm) 12062 = some (12, yX12_dry, cX12_dry, 2, some .boolean, 1) := rfl
set_option maxRecDepth 20000 in
theorem mt_12063 : ia_mt (ia_P0 L xs fm) 12063 = some (12, yX12_dries, cX12_dries, 3, none, 2) := rfl
set_option maxRecDepth 20000 in
theorem mt_12064 : ia_mt (ia_P0 L xs fm) 12064 = some (12, yX12_pause, cX12_pause, 2, some .int, 1) := rfl
set_option maxRecDepth 20000 in
theorem mt_12065 : ia_mt (ia_P0 L xs fm) 12065 = some (12, yX12_waits, cX12_waits, 5, none, 2) := rfl
set_option maxRecDepth 20000 in
theorem mt_12066 : ia_mt (ia_P0 L xs fm) 12066 = some (12, yX12_shut, cX12_shut, 4, some .int, 1) := rfl
set_option maxRecDepth 20000 in
theorem mt_12067 : ia_mt (ia_P0 L xs fm) 12067 = some (12, yX12_table, cX12_table, 2, some .boolean, 1) := rfl
set_option maxRecDepth 20000 in
theorem mt_12068 : ia_mt (ia_P0 L xs fm) 12068 = some (12, yX12_undo, cX12_undo, 2, some .int, 0) := rfl
set_option maxRecDepth 20000 in
theorem mt_12069 : ia_mt (ia_P0 L xs fm) 12069 = some (12, yX12_log, cX12_log, 3, some .int, 2) := rfl
set_option maxRecDepth 20000 in
theorem mt_12070 : ia_mt (ia_P0 L xs fm) 12070 = some (12, yX12_soonest, cX12_soonest, 6, some .int, 3) := rfl
set_option maxRecDepth 20000 in
theorem mt_12071 : ia_mt (ia_P0 L xs fm) 12071 = some (12, yX12_opensFirst, cX12_opensFirst, 7, some .boolean, 4) := rfl
set_option maxRecDepth 20000 in
theorem mt_12072 : ia_mt (ia_P0 L xs fm) 12072 = some (12, yX12_isAct, cX12_isAct, 3, some .boolean, 2) := rfl
set_option maxRecDepth 20000 in
theorem mt_12073 : ia_mt (ia_P0 L xs fm) 12073 = some (12, yX12_isStep, cX12_isStep, 3, some .boolean, 1) := rfl
set_option maxRecDepth 20000 in
theorem mt_12074 : ia_mt (ia_P0 L xs fm) 12074 = some (12, yX12_does, cX12_does, 3, none, 2) := rfl
set_option maxRecDepth 20000 in
theorem mt_12075 : ia_mt (ia_P0 L xs fm) 12075 = some (12, yX12_opensBy, cX12_opensBy, 5, some .boolean, 3) := rfl
set_option maxRecDepth 20000 in
theorem mt_12076 : ia_mt (ia_P0 L xs fm) 12076 = some (12, yX12_order, cX12_order, 2, some .int, 1) := rfl
set_option maxRecDepth 20000 in
theorem mt_12077 : ia_mt (ia_P0 L xs fm) 12077 = some (12, yX12_goOrder, cX12_goOrder, 6, none, 4) := rfl
set_option maxRecDepth 20000 in
theorem mt_12078 : ia_mt (ia_P0 L xs fm) 12078 = some (12, yX12_lineUp, cX12_lineUp, 5, none, 2) := rfl
set_option maxRecDepth 20000 in
theorem mt_12079 : ia_mt (ia_P0 L xs fm) 12079 = some (12, yX12_copy, cX12_copy, 4, none, 2) := rfl
set_option maxRecDepth 20000 in
theorem mt_12080 : ia_mt (ia_P0 L xs fm) 12080 = some (12, yX12_run, cX12_run, 3, some .int, 2) := rfl
set_option maxRecDepth 20000 in
theorem mt_12081 : ia_mt (ia_P0 L xs fm) 12081 = some (12, yX12_goPlan, cX12_goPlan, 4, none, 1) := rfl
set_option maxRecDepth 20000 in
theorem mt_12082 : ia_mt (ia_P0 L xs fm) 12082 = some (12, yX12_best, cX12_best, 5, some .int, 1) := rfl
set_option maxRecDepth 20000 in
theorem mt_12083 : ia_mt (ia_P0 L xs fm) 12083 = some (12, yX12_perform, cX12_perform, 5, some .int, 1) := rfl
set_option maxRecDepth 20000 in
theorem mt_12084 : ia_mt (ia_P0 L xs fm) 12084 = some (12, yX12_opens, cX12_opens, 2, some .int, 1) := rfl
set_option maxRecDepth 20000 in
theorem mt_12085 : ia_mt (ia_P0 L xs fm) 12085 = some (12, yX12_setDoes, cX12_setDoes, 3, some .boolean, 1) := rfl
set_option maxRecDepth 20000 in
theorem mt_12086 : ia_mt (ia_P0 L xs fm) 12086 = some (12, yX12_share, cX12_share, 5, some .int, 1) := rfl
set_option maxRecDepth 20000 in
theorem mt_12087 : ia_mt (ia_P0 L xs fm) 12087 = some (12, yX12_orders, cX12_orders, 3, some .int, 1) := rfl
set_option maxRecDepth 20000 in
theorem mt_12088 : ia_mt (ia_P0 L xs fm) 12088 = some (12, yX12_cheapest, cX12_cheapest, 4, some .int, 1) := rfl
set_option maxRecDepth 20000 in
theorem mt_12089 : ia_mt (ia_P0 L xs fm) 12089 = some (12, yX12_wouldOpen, cX12_wouldOpen, 4, some .boolean, 3) := rfl
set_option maxRecDepth 20000 in
theorem mt_12090 : ia_mt (ia_P0 L xs fm) 12090 = some (12, yX12_safe, cX12_safe, 1, some .int, 0) := rfl
set_option maxRecDepth 20000 in
theorem mt_12091 : ia_mt (ia_P0 L xs fm) 12091 = some (12, yX12_enough, cX12_enough, 4, some .int, 2) := rfl
set_option maxRecDepth 20000 in
theorem mt_12092 : ia_mt (ia_P0 L xs fm) 12092 = some (12, yX12_saves, cX12_saves, 6, some .int, 2) := rfl
set_option maxRecDepth 20000 in
theorem mt_12093 : ia_mt (ia_P0 L xs fm) 12093 = some (12, yX12_opensTold, cX12_opensTold, 5, some .boolean, 4) := rfl
set_option maxRecDepth 20000 in
theorem mt_12094 : ia_mt (ia_P0 L xs fm) 12094 = some (12, yX12_gripTold, cX12_gripTold, 4, some .int, 3) := rfl
set_option maxRecDepth 20000 in
theorem mt_12095 : ia_mt (ia_P0 L xs fm) 12095 = some (12, yX12_common, cX12_common, 2, some .int, 2) := rfl
set_option maxRecDepth 20000 in
theorem mt_12096 : ia_mt (ia_P0 L xs fm) 12096 = some (12, yX12_openers, cX12_openers, 3, some .int, 2) := rfl
set_option maxRecDepth 20000 in
theorem mt_12097 : ia_mt (ia_P0 L xs fm) 12097 = some (12, yX12_openersOf, cX12_openersOf, 5, some .int, 2) := rfl
set_option maxRecDepth 20000 in
theorem mt_12098 : ia_mt (ia_P0 L xs fm) 12098 = some (12, yX12_factory, cX12_factory, 5, some .int, 3) := rfl
set_option maxRecDepth 20000 in
theorem mt_12099 : ia_mt (ia_P0 L xs fm) 12099 = some (12, yX12_tried, cX12_tried, 3, some .int, 2) := rfl
set_option maxRecDepth 20000 in
theorem mt_12100 : ia_mt (ia_P0 L xs fm) 12100 = some (12, yX12_forgive, cX12_forgive, 1, some .boolean, 0) := rfl
set_option maxRecDepth 20000 in
theorem mt_12101 : ia_mt (ia_P0 L xs fm) 12101 = some (12, yX12_tight, cX12_tight, 6, some .int, 1) := rfl
set_option maxRecDepth 20000 in
theorem mt_12102 : ia_mt (ia_P0 L xs fm) 12102 = some (12, yX12_leftOf, cX12_leftOf, 4, some .int, 1) := rfl
set_option maxRecDepth 20000 in
theorem mt_12103 : ia_mt (ia_P0 L xs fm) 12103 = some (12, yX12_next, cX12_next, 4, some .int, 1) := rfl
set_option maxRecDepth 20000 in
theorem mt_12104 : ia_mt (ia_P0 L xs fm) 12104 = some (12, yX12_who, cX12_who, 5, some .int, 2) := rfl
set_option maxRecDepth 20000 in
theorem mt_12105 : ia_mt (ia_P0 L xs fm) 12105 = some (12, yX12_lefties, cX12_lefties, 3, some .int, 0) := rfl
set_option maxRecDepth 20000 in
theorem mt_12106 : ia_mt (ia_P0 L xs fm) 12106 = some (12, yX12_evening, cX12_evening, 8, some .int, 2) := rfl
set_option maxRecDepth 20000 in
theorem mt_12107 : ia_mt (ia_P0 L xs fm) 12107 = some (12, yX12_draw, cX12_draw, 2, some .int, 1) := rfl
set_option maxRecDepth 20000 in
theorem mt_12108 : ia_mt (ia_P0 L xs fm) 12108 = some (12, yX12_image, cX12_image, 1, some .int, 0) := rfl
set_option maxRecDepth 20000 in
theorem mt_12109 : ia_mt (ia_P0 L xs fm) 12109 = some (12, yX12_back, cX12_back, 1, some .int, 0) := rfl
set_option maxRecDepth 20000 in
theorem mt_12110 : ia_mt (ia_P0 L xs fm) 12110 = some (12, yX12_count, cX12_count, 2, some .int, 1) := rfl
end ZL
