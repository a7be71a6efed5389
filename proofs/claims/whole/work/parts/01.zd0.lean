theorem dX0_init_0 : decode cX0_init 0 = .ok (.aload_n 0, 1) := by decide +kernel
theorem dX0_init_1 : decode cX0_init 1 = .ok (.invokespecial 3, 3) := by decide +kernel
theorem dX0_init_4 : decode cX0_init 4 = .ok (.aload_n 0, 1) := by decide +kernel
theorem dX0_init_5 : decode cX0_init 5 = .ok (.bipush 6, 2) := by decide +kernel
theorem dX0_init_7 : decode cX0_init 7 = .ok (.newarray .int, 2) := by decide +kernel
theorem dX0_init_9 : decode cX0_init 9 = .ok (.putfield 9, 3) := by decide +kernel
theorem dX0_init_12 : decode cX0_init 12 = .ok (.return_, 1) := by decide +kernel
theorem dX0_gather_0 : decode cX0_gather 0 = .ok (.aload_n 0, 1) := by decide +kernel
theorem dX0_gather_1 : decode cX0_gather 1 = .ok (.aload_n 1, 1) := by decide +kernel
theorem dX0_gather_2 : decode cX0_gather 2 = .ok (.getfield 15, 3) := by decide +kernel
theorem dX0_gather_5 : decode cX0_gather 5 = .ok (.getfield 21, 3) := by decide +kernel
theorem dX0_gather_8 : decode cX0_gather 8 = .ok (.iconst 1, 1) := by decide +kernel
theorem dX0_gather_9 : decode cX0_gather 9 = .ok (.iaload, 1) := by decide +kernel
theorem dX0_gather_10 : decode cX0_gather 10 = .ok (.putfield 26, 3) := by decide +kernel
theorem dX0_gather_13 : decode cX0_gather 13 = .ok (.iconst 0, 1) := by decide +kernel
theorem dX0_gather_14 : decode cX0_gather 14 = .ok (.istore_n 2, 1) := by decide +kernel
theorem dX0_gather_15 : decode cX0_gather 15 = .ok (.iload_n 2, 1) := by decide +kernel
theorem dX0_gather_16 : decode cX0_gather 16 = .ok (.aload_n 0, 1) := by decide +kernel
theorem dX0_gather_17 : decode cX0_gather 17 = .ok (.getfield 26, 3) := by decide +kernel
theorem dX0_gather_20 : decode cX0_gather 20 = .ok (.if_icmp .ge 25, 3) := by decide +kernel
theorem dX0_gather_23 : decode cX0_gather 23 = .ok (.aload_n 0, 1) := by decide +kernel
theorem dX0_gather_24 : decode cX0_gather 24 = .ok (.getfield 9, 3) := by decide +kernel
theorem dX0_gather_27 : decode cX0_gather 27 = .ok (.iload_n 2, 1) := by decide +kernel
theorem dX0_gather_28 : decode cX0_gather 28 = .ok (.aload_n 1, 1) := by decide +kernel
theorem dX0_gather_29 : decode cX0_gather 29 = .ok (.iload_n 2, 1) := by decide +kernel
theorem dX0_gather_30 : decode cX0_gather 30 = .ok (.iconst (-1), 1) := by decide +kernel
theorem dX0_gather_31 : decode cX0_gather 31 = .ok (.aload_n 1, 1) := by decide +kernel
theorem dX0_gather_32 : decode cX0_gather 32 = .ok (.invokevirtual 30, 3) := by decide +kernel
theorem dX0_gather_35 : decode cX0_gather 35 = .ok (.invokevirtual 34, 3) := by decide +kernel
theorem dX0_gather_38 : decode cX0_gather 38 = .ok (.iastore, 1) := by decide +kernel
theorem dX0_gather_39 : decode cX0_gather 39 = .ok (.iinc 2 1, 3) := by decide +kernel
theorem dX0_gather_42 : decode cX0_gather 42 = .ok (.goto (-27), 3) := by decide +kernel
theorem dX0_gather_45 : decode cX0_gather 45 = .ok (.aload_n 0, 1) := by decide +kernel
theorem dX0_gather_46 : decode cX0_gather 46 = .ok (.aload_n 1, 1) := by decide +kernel
theorem dX0_gather_47 : decode cX0_gather 47 = .ok (.iconst 1, 1) := by decide +kernel
theorem dX0_gather_48 : decode cX0_gather 48 = .ok (.invokevirtual 38, 3) := by decide +kernel
theorem dX0_gather_51 : decode cX0_gather 51 = .ok (.putfield 42, 3) := by decide +kernel
theorem dX0_gather_54 : decode cX0_gather 54 = .ok (.aload_n 0, 1) := by decide +kernel
theorem dX0_gather_55 : decode cX0_gather 55 = .ok (.aload_n 1, 1) := by decide +kernel
theorem dX0_gather_56 : decode cX0_gather 56 = .ok (.aload_n 1, 1) := by decide +kernel
theorem dX0_gather_57 : decode cX0_gather 57 = .ok (.invokevirtual 30, 3) := by decide +kernel
theorem dX0_gather_60 : decode cX0_gather 60 = .ok (.invokevirtual 45, 3) := by decide +kernel
theorem dX0_gather_63 : decode cX0_gather 63 = .ok (.aload_n 0, 1) := by decide +kernel
theorem dX0_gather_64 : decode cX0_gather 64 = .ok (.getfield 42, 3) := by decide +kernel
theorem dX0_gather_67 : decode cX0_gather 67 = .ok (.isub, 1) := by decide +kernel
theorem dX0_gather_68 : decode cX0_gather 68 = .ok (.putfield 48, 3) := by decide +kernel
theorem dX0_gather_71 : decode cX0_gather 71 = .ok (.return_, 1) := by decide +kernel
theorem dX0_stuckBehind_0 : decode cX0_stuckBehind 0 = .ok (.iconst 0, 1) := by decide +kernel
theorem dX0_stuckBehind_1 : decode cX0_stuckBehind 1 = .ok (.iload_n 2, 1) := by decide +kernel
theorem dX0_stuckBehind_2 : decode cX0_stuckBehind 2 = .ok (.aload_n 0, 1) := by decide +kernel
theorem dX0_stuckBehind_3 : decode cX0_stuckBehind 3 = .ok (.getfield 9, 3) := by decide +kernel
theorem dX0_stuckBehind_6 : decode cX0_stuckBehind 6 = .ok (.iload_n 1, 1) := by decide +kernel
theorem dX0_stuckBehind_7 : decode cX0_stuckBehind 7 = .ok (.iaload, 1) := by decide +kernel
theorem dX0_stuckBehind_8 : decode cX0_stuckBehind 8 = .ok (.bipush 10, 2) := by decide +kernel
theorem dX0_stuckBehind_10 : decode cX0_stuckBehind 10 = .ok (.idiv, 1) := by decide +kernel
theorem dX0_stuckBehind_11 : decode cX0_stuckBehind 11 = .ok (.isub, 1) := by decide +kernel
theorem dX0_stuckBehind_12 : decode cX0_stuckBehind 12 = .ok (.invokestatic 51, 3) := by decide +kernel
theorem dX0_stuckBehind_15 : decode cX0_stuckBehind 15 = .ok (.ireturn, 1) := by decide +kernel
theorem dX0_canOpen_0 : decode cX0_canOpen 0 = .ok (.aload_n 0, 1) := by decide +kernel
theorem dX0_canOpen_1 : decode cX0_canOpen 1 = .ok (.getfield 42, 3) := by decide +kernel
theorem dX0_canOpen_4 : decode cX0_canOpen 4 = .ok (.istore_n 2, 1) := by decide +kernel
theorem dX0_canOpen_5 : decode cX0_canOpen 5 = .ok (.iconst 0, 1) := by decide +kernel
theorem dX0_canOpen_6 : decode cX0_canOpen 6 = .ok (.istore_n 3, 1) := by decide +kernel
theorem dX0_canOpen_7 : decode cX0_canOpen 7 = .ok (.iload_n 3, 1) := by decide +kernel
theorem dX0_canOpen_8 : decode cX0_canOpen 8 = .ok (.aload_n 0, 1) := by decide +kernel
theorem dX0_canOpen_9 : decode cX0_canOpen 9 = .ok (.getfield 26, 3) := by decide +kernel
theorem dX0_canOpen_12 : decode cX0_canOpen 12 = .ok (.if_icmp .ge 42, 3) := by decide +kernel
theorem dX0_canOpen_15 : decode cX0_canOpen 15 = .ok (.iload_n 1, 1) := by decide +kernel
theorem dX0_canOpen_16 : decode cX0_canOpen 16 = .ok (.iload_n 3, 1) := by decide +kernel
theorem dX0_canOpen_17 : decode cX0_canOpen 17 = .ok (.ishr, 1) := by decide +kernel
theorem dX0_canOpen_18 : decode cX0_canOpen 18 = .ok (.iconst 1, 1) := by decide +kernel
theorem dX0_canOpen_19 : decode cX0_canOpen 19 = .ok (.iand, 1) := by decide +kernel
theorem dX0_canOpen_20 : decode cX0_canOpen 20 = .ok (.iconst 1, 1) := by decide +kernel
theorem dX0_canOpen_21 : decode cX0_canOpen 21 = .ok (.if_icmp .ne 27, 3) := by decide +kernel
theorem dX0_canOpen_24 : decode cX0_canOpen 24 = .ok (.aload_n 0, 1) := by decide +kernel
theorem dX0_canOpen_25 : decode cX0_canOpen 25 = .ok (.getfield 9, 3) := by decide +kernel
theorem dX0_canOpen_28 : decode cX0_canOpen 28 = .ok (.iload_n 3, 1) := by decide +kernel
theorem dX0_canOpen_29 : decode cX0_canOpen 29 = .ok (.iaload, 1) := by decide +kernel
theorem dX0_canOpen_30 : decode cX0_canOpen 30 = .ok (.aload_n 0, 1) := by decide +kernel
theorem dX0_canOpen_31 : decode cX0_canOpen 31 = .ok (.getfield 48, 3) := by decide +kernel
theorem dX0_canOpen_34 : decode cX0_canOpen 34 = .ok (.iload_n 2, 1) := by decide +kernel
theorem dX0_canOpen_35 : decode cX0_canOpen 35 = .ok (.iadd, 1) := by decide +kernel
theorem dX0_canOpen_36 : decode cX0_canOpen 36 = .ok (.if_icmp .lt 5, 3) := by decide +kernel
theorem dX0_canOpen_39 : decode cX0_canOpen 39 = .ok (.iconst 1, 1) := by decide +kernel
theorem dX0_canOpen_40 : decode cX0_canOpen 40 = .ok (.ireturn, 1) := by decide +kernel
theorem dX0_canOpen_41 : decode cX0_canOpen 41 = .ok (.aload_n 0, 1) := by decide +kernel
theorem dX0_canOpen_42 : decode cX0_canOpen 42 = .ok (.iload_n 3, 1) := by decide +kernel
theorem dX0_canOpen_43 : decode cX0_canOpen 43 = .ok (.iload_n 2, 1) := by decide +kernel
theorem dX0_canOpen_44 : decode cX0_canOpen 44 = .ok (.invokevirtual 57, 3) := by decide +kernel
theorem dX0_canOpen_47 : decode cX0_canOpen 47 = .ok (.istore_n 2, 1) := by decide +kernel
theorem dX0_canOpen_48 : decode cX0_canOpen 48 = .ok (.iinc 3 1, 3) := by decide +kernel
theorem dX0_canOpen_51 : decode cX0_canOpen 51 = .ok (.goto (-44), 3) := by decide +kernel
theorem dX0_canOpen_54 : decode cX0_canOpen 54 = .ok (.iconst 0, 1) := by decide +kernel
theorem dX0_canOpen_55 : decode cX0_canOpen 55 = .ok (.ireturn, 1) := by decide +kernel
theorem dX0_ordersDecidedBy_0 : decode cX0_ordersDecidedBy 0 = .ok (.iconst 0, 1) := by decide +kernel
theorem dX0_ordersDecidedBy_1 : decode cX0_ordersDecidedBy 1 = .ok (.istore_n 2, 1) := by decide +kernel
theorem dX0_ordersDecidedBy_2 : decode cX0_ordersDecidedBy 2 = .ok (.iconst 0, 1) := by decide +kernel
theorem dX0_ordersDecidedBy_3 : decode cX0_ordersDecidedBy 3 = .ok (.istore_n 3, 1) := by decide +kernel
theorem dX0_ordersDecidedBy_4 : decode cX0_ordersDecidedBy 4 = .ok (.iload_n 3, 1) := by decide +kernel
theorem dX0_ordersDecidedBy_5 : decode cX0_ordersDecidedBy 5 = .ok (.iconst 1, 1) := by decide +kernel
theorem dX0_ordersDecidedBy_6 : decode cX0_ordersDecidedBy 6 = .ok (.aload_n 0, 1) := by decide +kernel
theorem dX0_ordersDecidedBy_7 : decode cX0_ordersDecidedBy 7 = .ok (.getfield 26, 3) := by decide +kernel
theorem dX0_ordersDecidedBy_10 : decode cX0_ordersDecidedBy 10 = .ok (.ishl, 1) := by decide +kernel
theorem dX0_ordersDecidedBy_11 : decode cX0_ordersDecidedBy 11 = .ok (.if_icmp .ge 64, 3) := by decide +kernel
theorem dX0_ordersDecidedBy_14 : decode cX0_ordersDecidedBy 14 = .ok (.iload_n 3, 1) := by decide +kernel
theorem dX0_ordersDecidedBy_15 : decode cX0_ordersDecidedBy 15 = .ok (.iload_n 1, 1) := by decide +kernel
theorem dX0_ordersDecidedBy_16 : decode cX0_ordersDecidedBy 16 = .ok (.ishr, 1) := by decide +kernel
theorem dX0_ordersDecidedBy_17 : decode cX0_ordersDecidedBy 17 = .ok (.iconst 1, 1) := by decide +kernel
theorem dX0_ordersDecidedBy_18 : decode cX0_ordersDecidedBy 18 = .ok (.iand, 1) := by decide +kernel
theorem dX0_ordersDecidedBy_19 : decode cX0_ordersDecidedBy 19 = .ok (.ifCond .ne 50, 3) := by decide +kernel
theorem dX0_ordersDecidedBy_22 : decode cX0_ordersDecidedBy 22 = .ok (.aload_n 0, 1) := by decide +kernel
theorem dX0_ordersDecidedBy_23 : decode cX0_ordersDecidedBy 23 = .ok (.iload_n 3, 1) := by decide +kernel
theorem dX0_ordersDecidedBy_24 : decode cX0_ordersDecidedBy 24 = .ok (.invokevirtual 60, 3) := by decide +kernel
theorem dX0_ordersDecidedBy_27 : decode cX0_ordersDecidedBy 27 = .ok (.ifCond .ne 42, 3) := by decide +kernel
theorem dX0_ordersDecidedBy_30 : decode cX0_ordersDecidedBy 30 = .ok (.aload_n 0, 1) := by decide +kernel
theorem dX0_ordersDecidedBy_31 : decode cX0_ordersDecidedBy 31 = .ok (.iload_n 3, 1) := by decide +kernel
theorem dX0_ordersDecidedBy_32 : decode cX0_ordersDecidedBy 32 = .ok (.iconst 1, 1) := by decide +kernel
theorem dX0_ordersDecidedBy_33 : decode cX0_ordersDecidedBy 33 = .ok (.iload_n 1, 1) := by decide +kernel
theorem dX0_ordersDecidedBy_34 : decode cX0_ordersDecidedBy 34 = .ok (.ishl, 1) := by decide +kernel
theorem dX0_ordersDecidedBy_35 : decode cX0_ordersDecidedBy 35 = .ok (.ior, 1) := by decide +kernel
theorem dX0_ordersDecidedBy_36 : decode cX0_ordersDecidedBy 36 = .ok (.invokevirtual 60, 3) := by decide +kernel
theorem dX0_ordersDecidedBy_39 : decode cX0_ordersDecidedBy 39 = .ok (.ifCond .eq 30, 3) := by decide +kernel
theorem dX0_ordersDecidedBy_42 : decode cX0_ordersDecidedBy 42 = .ok (.iload_n 3, 1) := by decide +kernel
theorem dX0_ordersDecidedBy_43 : decode cX0_ordersDecidedBy 43 = .ok (.invokestatic 64, 3) := by decide +kernel
theorem dX0_ordersDecidedBy_46 : decode cX0_ordersDecidedBy 46 = .ok (.istore 4, 2) := by decide +kernel
theorem dX0_ordersDecidedBy_48 : decode cX0_ordersDecidedBy 48 = .ok (.iload_n 2, 1) := by decide +kernel
theorem dX0_ordersDecidedBy_49 : decode cX0_ordersDecidedBy 49 = .ok (.iload 4, 2) := by decide +kernel
theorem dX0_ordersDecidedBy_51 : decode cX0_ordersDecidedBy 51 = .ok (.invokestatic 69, 3) := by decide +kernel
theorem dX0_ordersDecidedBy_54 : decode cX0_ordersDecidedBy 54 = .ok (.aload_n 0, 1) := by decide +kernel
theorem dX0_ordersDecidedBy_55 : decode cX0_ordersDecidedBy 55 = .ok (.getfield 26, 3) := by decide +kernel
theorem dX0_ordersDecidedBy_58 : decode cX0_ordersDecidedBy 58 = .ok (.iload 4, 2) := by decide +kernel
theorem dX0_ordersDecidedBy_60 : decode cX0_ordersDecidedBy 60 = .ok (.isub, 1) := by decide +kernel
theorem dX0_ordersDecidedBy_61 : decode cX0_ordersDecidedBy 61 = .ok (.iconst 1, 1) := by decide +kernel
theorem dX0_ordersDecidedBy_62 : decode cX0_ordersDecidedBy 62 = .ok (.isub, 1) := by decide +kernel
theorem dX0_ordersDecidedBy_63 : decode cX0_ordersDecidedBy 63 = .ok (.invokestatic 69, 3) := by decide +kernel
theorem dX0_ordersDecidedBy_66 : decode cX0_ordersDecidedBy 66 = .ok (.imul, 1) := by decide +kernel
theorem dX0_ordersDecidedBy_67 : decode cX0_ordersDecidedBy 67 = .ok (.iadd, 1) := by decide +kernel
theorem dX0_ordersDecidedBy_68 : decode cX0_ordersDecidedBy 68 = .ok (.istore_n 2, 1) := by decide +kernel
theorem dX0_ordersDecidedBy_69 : decode cX0_ordersDecidedBy 69 = .ok (.iinc 3 1, 3) := by decide +kernel
theorem dX0_ordersDecidedBy_72 : decode cX0_ordersDecidedBy 72 = .ok (.goto (-68), 3) := by decide +kernel
theorem dX0_ordersDecidedBy_75 : decode cX0_ordersDecidedBy 75 = .ok (.iload_n 2, 1) := by decide +kernel
theorem dX0_ordersDecidedBy_76 : decode cX0_ordersDecidedBy 76 = .ok (.ireturn, 1) := by decide +kernel
theorem dX0_factorial_0 : decode cX0_factorial 0 = .ok (.iconst 1, 1) := by decide +kernel
theorem dX0_factorial_1 : decode cX0_factorial 1 = .ok (.istore_n 1, 1) := by decide +kernel
theorem dX0_factorial_2 : decode cX0_factorial 2 = .ok (.iconst 2, 1) := by decide +kernel
theorem dX0_factorial_3 : decode cX0_factorial 3 = .ok (.istore_n 2, 1) := by decide +kernel
theorem dX0_factorial_4 : decode cX0_factorial 4 = .ok (.iload_n 2, 1) := by decide +kernel
theorem dX0_factorial_5 : decode cX0_factorial 5 = .ok (.iload_n 0, 1) := by decide +kernel
theorem dX0_factorial_6 : decode cX0_factorial 6 = .ok (.if_icmp .gt 13, 3) := by decide +kernel
theorem dX0_factorial_9 : decode cX0_factorial 9 = .ok (.iload_n 1, 1) := by decide +kernel
theorem dX0_factorial_10 : decode cX0_factorial 10 = .ok (.iload_n 2, 1) := by decide +kernel
theorem dX0_factorial_11 : decode cX0_factorial 11 = .ok (.imul, 1) := by decide +kernel
theorem dX0_factorial_12 : decode cX0_factorial 12 = .ok (.istore_n 1, 1) := by decide +kernel
theorem dX0_factorial_13 : decode cX0_factorial 13 = .ok (.iinc 2 1, 3) := by decide +kernel
theorem dX0_factorial_16 : decode cX0_factorial 16 = .ok (.goto (-12), 3) := by decide +kernel
theorem dX0_factorial_19 : decode cX0_factorial 19 = .ok (.iload_n 1, 1) := by decide +kernel
theorem dX0_factorial_20 : decode cX0_factorial 20 = .ok (.ireturn, 1) := by decide +kernel
theorem dX0_findsOrder_0 : decode cX0_findsOrder 0 = .ok (.iconst 1, 1) := by decide +kernel
theorem dX0_findsOrder_1 : decode cX0_findsOrder 1 = .ok (.istore_n 1, 1) := by decide +kernel
theorem dX0_findsOrder_2 : decode cX0_findsOrder 2 = .ok (.iload_n 1, 1) := by decide +kernel
theorem dX0_findsOrder_3 : decode cX0_findsOrder 3 = .ok (.aload_n 0, 1) := by decide +kernel
theorem dX0_findsOrder_4 : decode cX0_findsOrder 4 = .ok (.getfield 26, 3) := by decide +kernel
theorem dX0_findsOrder_7 : decode cX0_findsOrder 7 = .ok (.if_icmp .gt 38, 3) := by decide +kernel
theorem dX0_findsOrder_10 : decode cX0_findsOrder 10 = .ok (.aload_n 0, 1) := by decide +kernel
theorem dX0_findsOrder_11 : decode cX0_findsOrder 11 = .ok (.iload_n 1, 1) := by decide +kernel
theorem dX0_findsOrder_12 : decode cX0_findsOrder 12 = .ok (.iconst 0, 1) := by decide +kernel
theorem dX0_findsOrder_13 : decode cX0_findsOrder 13 = .ok (.aload_n 0, 1) := by decide +kernel
theorem dX0_findsOrder_14 : decode cX0_findsOrder 14 = .ok (.getfield 42, 3) := by decide +kernel
theorem dX0_findsOrder_17 : decode cX0_findsOrder 17 = .ok (.iconst 0, 1) := by decide +kernel
theorem dX0_findsOrder_18 : decode cX0_findsOrder 18 = .ok (.invokevirtual 72, 3) := by decide +kernel
theorem dX0_findsOrder_21 : decode cX0_findsOrder 21 = .ok (.istore_n 2, 1) := by decide +kernel
theorem dX0_findsOrder_22 : decode cX0_findsOrder 22 = .ok (.iload_n 2, 1) := by decide +kernel
theorem dX0_findsOrder_23 : decode cX0_findsOrder 23 = .ok (.iconst (-1), 1) := by decide +kernel
theorem dX0_findsOrder_24 : decode cX0_findsOrder 24 = .ok (.if_icmp .eq 15, 3) := by decide +kernel
theorem dX0_findsOrder_27 : decode cX0_findsOrder 27 = .ok (.aload_n 0, 1) := by decide +kernel
theorem dX0_findsOrder_28 : decode cX0_findsOrder 28 = .ok (.iload_n 2, 1) := by decide +kernel
theorem dX0_findsOrder_29 : decode cX0_findsOrder 29 = .ok (.putfield 76, 3) := by decide +kernel
theorem dX0_findsOrder_32 : decode cX0_findsOrder 32 = .ok (.aload_n 0, 1) := by decide +kernel
theorem dX0_findsOrder_33 : decode cX0_findsOrder 33 = .ok (.iload_n 1, 1) := by decide +kernel
theorem dX0_findsOrder_34 : decode cX0_findsOrder 34 = .ok (.putfield 79, 3) := by decide +kernel
theorem dX0_findsOrder_37 : decode cX0_findsOrder 37 = .ok (.iconst 1, 1) := by decide +kernel
theorem dX0_findsOrder_38 : decode cX0_findsOrder 38 = .ok (.ireturn, 1) := by decide +kernel
theorem dX0_findsOrder_39 : decode cX0_findsOrder 39 = .ok (.iinc 1 1, 3) := by decide +kernel
theorem dX0_findsOrder_42 : decode cX0_findsOrder 42 = .ok (.goto (-40), 3) := by decide +kernel
theorem dX0_findsOrder_45 : decode cX0_findsOrder 45 = .ok (.iconst 0, 1) := by decide +kernel
theorem dX0_findsOrder_46 : decode cX0_findsOrder 46 = .ok (.ireturn, 1) := by decide +kernel
theorem dX0_orderOf_0 : decode cX0_orderOf 0 = .ok (.iconst 0, 1) := by decide +kernel
theorem dX0_orderOf_1 : decode cX0_orderOf 1 = .ok (.istore 5, 2) := by decide +kernel
theorem dX0_orderOf_3 : decode cX0_orderOf 3 = .ok (.iload 5, 2) := by decide +kernel
theorem dX0_orderOf_5 : decode cX0_orderOf 5 = .ok (.aload_n 0, 1) := by decide +kernel
theorem dX0_orderOf_6 : decode cX0_orderOf 6 = .ok (.getfield 26, 3) := by decide +kernel
theorem dX0_orderOf_9 : decode cX0_orderOf 9 = .ok (.if_icmp .ge 108, 3) := by decide +kernel
theorem dX0_orderOf_12 : decode cX0_orderOf 12 = .ok (.iload_n 2, 1) := by decide +kernel
theorem dX0_orderOf_13 : decode cX0_orderOf 13 = .ok (.iload 5, 2) := by decide +kernel
theorem dX0_orderOf_15 : decode cX0_orderOf 15 = .ok (.ishr, 1) := by decide +kernel
theorem dX0_orderOf_16 : decode cX0_orderOf 16 = .ok (.iconst 1, 1) := by decide +kernel
theorem dX0_orderOf_17 : decode cX0_orderOf 17 = .ok (.iand, 1) := by decide +kernel
theorem dX0_orderOf_18 : decode cX0_orderOf 18 = .ok (.iconst 1, 1) := by decide +kernel
theorem dX0_orderOf_19 : decode cX0_orderOf 19 = .ok (.if_icmp .ne 6, 3) := by decide +kernel
theorem dX0_orderOf_22 : decode cX0_orderOf 22 = .ok (.goto 89, 3) := by decide +kernel
theorem dX0_orderOf_25 : decode cX0_orderOf 25 = .ok (.iload_n 2, 1) := by decide +kernel
theorem dX0_orderOf_26 : decode cX0_orderOf 26 = .ok (.iconst 1, 1) := by decide +kernel
theorem dX0_orderOf_27 : decode cX0_orderOf 27 = .ok (.iload 5, 2) := by decide +kernel
theorem dX0_orderOf_29 : decode cX0_orderOf 29 = .ok (.ishl, 1) := by decide +kernel
theorem dX0_orderOf_30 : decode cX0_orderOf 30 = .ok (.ior, 1) := by decide +kernel
theorem dX0_orderOf_31 : decode cX0_orderOf 31 = .ok (.istore 6, 2) := by decide +kernel
theorem dX0_orderOf_33 : decode cX0_orderOf 33 = .ok (.iconst (-1), 1) := by decide +kernel
theorem dX0_orderOf_34 : decode cX0_orderOf 34 = .ok (.istore 7, 2) := by decide +kernel
theorem dX0_orderOf_36 : decode cX0_orderOf 36 = .ok (.iload_n 1, 1) := by decide +kernel
theorem dX0_orderOf_37 : decode cX0_orderOf 37 = .ok (.iconst 1, 1) := by decide +kernel
theorem dX0_orderOf_38 : decode cX0_orderOf 38 = .ok (.if_icmp .le 32, 3) := by decide +kernel
theorem dX0_orderOf_41 : decode cX0_orderOf 41 = .ok (.aload_n 0, 1) := by decide +kernel
theorem dX0_orderOf_42 : decode cX0_orderOf 42 = .ok (.iload_n 1, 1) := by decide +kernel
theorem dX0_orderOf_43 : decode cX0_orderOf 43 = .ok (.iconst 1, 1) := by decide +kernel
theorem dX0_orderOf_44 : decode cX0_orderOf 44 = .ok (.isub, 1) := by decide +kernel
theorem dX0_orderOf_45 : decode cX0_orderOf 45 = .ok (.iload 6, 2) := by decide +kernel
theorem dX0_orderOf_47 : decode cX0_orderOf 47 = .ok (.aload_n 0, 1) := by decide +kernel
theorem dX0_orderOf_48 : decode cX0_orderOf 48 = .ok (.iload 5, 2) := by decide +kernel
theorem dX0_orderOf_50 : decode cX0_orderOf 50 = .ok (.iload_n 3, 1) := by decide +kernel
theorem dX0_orderOf_51 : decode cX0_orderOf 51 = .ok (.invokevirtual 57, 3) := by decide +kernel
theorem dX0_orderOf_54 : decode cX0_orderOf 54 = .ok (.iload 4, 2) := by decide +kernel
theorem dX0_orderOf_56 : decode cX0_orderOf 56 = .ok (.bipush 10, 2) := by decide +kernel
theorem dX0_orderOf_58 : decode cX0_orderOf 58 = .ok (.imul, 1) := by decide +kernel
theorem dX0_orderOf_59 : decode cX0_orderOf 59 = .ok (.iload 5, 2) := by decide +kernel
theorem dX0_orderOf_61 : decode cX0_orderOf 61 = .ok (.iadd, 1) := by decide +kernel
theorem dX0_orderOf_62 : decode cX0_orderOf 62 = .ok (.invokevirtual 72, 3) := by decide +kernel
theorem dX0_orderOf_65 : decode cX0_orderOf 65 = .ok (.istore 7, 2) := by decide +kernel
theorem dX0_orderOf_67 : decode cX0_orderOf 67 = .ok (.goto 35, 3) := by decide +kernel
theorem dX0_orderOf_70 : decode cX0_orderOf 70 = .ok (.aload_n 0, 1) := by decide +kernel
theorem dX0_orderOf_71 : decode cX0_orderOf 71 = .ok (.getfield 9, 3) := by decide +kernel
theorem dX0_orderOf_74 : decode cX0_orderOf 74 = .ok (.iload 5, 2) := by decide +kernel
theorem dX0_orderOf_76 : decode cX0_orderOf 76 = .ok (.iaload, 1) := by decide +kernel
theorem dX0_orderOf_77 : decode cX0_orderOf 77 = .ok (.aload_n 0, 1) := by decide +kernel
theorem dX0_orderOf_78 : decode cX0_orderOf 78 = .ok (.getfield 48, 3) := by decide +kernel
theorem dX0_orderOf_81 : decode cX0_orderOf 81 = .ok (.iload_n 3, 1) := by decide +kernel
theorem dX0_orderOf_82 : decode cX0_orderOf 82 = .ok (.iadd, 1) := by decide +kernel
theorem dX0_orderOf_83 : decode cX0_orderOf 83 = .ok (.if_icmp .lt 19, 3) := by decide +kernel
theorem dX0_orderOf_86 : decode cX0_orderOf 86 = .ok (.aload_n 0, 1) := by decide +kernel
theorem dX0_orderOf_87 : decode cX0_orderOf 87 = .ok (.iload 4, 2) := by decide +kernel
theorem dX0_orderOf_89 : decode cX0_orderOf 89 = .ok (.bipush 10, 2) := by decide +kernel
theorem dX0_orderOf_91 : decode cX0_orderOf 91 = .ok (.imul, 1) := by decide +kernel
theorem dX0_orderOf_92 : decode cX0_orderOf 92 = .ok (.iload 5, 2) := by decide +kernel
theorem dX0_orderOf_94 : decode cX0_orderOf 94 = .ok (.iadd, 1) := by decide +kernel
theorem dX0_orderOf_95 : decode cX0_orderOf 95 = .ok (.iload 6, 2) := by decide +kernel
theorem dX0_orderOf_97 : decode cX0_orderOf 97 = .ok (.invokevirtual 82, 3) := by decide +kernel
theorem dX0_orderOf_100 : decode cX0_orderOf 100 = .ok (.istore 7, 2) := by decide +kernel
theorem dX0_orderOf_102 : decode cX0_orderOf 102 = .ok (.iload 7, 2) := by decide +kernel
theorem dX0_orderOf_104 : decode cX0_orderOf 104 = .ok (.iconst (-1), 1) := by decide +kernel
theorem dX0_orderOf_105 : decode cX0_orderOf 105 = .ok (.if_icmp .eq 6, 3) := by decide +kernel
theorem dX0_orderOf_108 : decode cX0_orderOf 108 = .ok (.iload 7, 2) := by decide +kernel
theorem dX0_orderOf_110 : decode cX0_orderOf 110 = .ok (.ireturn, 1) := by decide +kernel
theorem dX0_orderOf_111 : decode cX0_orderOf 111 = .ok (.iinc 5 1, 3) := by decide +kernel
theorem dX0_orderOf_114 : decode cX0_orderOf 114 = .ok (.goto (-111), 3) := by decide +kernel
theorem dX0_orderOf_117 : decode cX0_orderOf 117 = .ok (.iconst (-1), 1) := by decide +kernel
theorem dX0_orderOf_118 : decode cX0_orderOf 118 = .ok (.ireturn, 1) := by decide +kernel
theorem dX0_filled_0 : decode cX0_filled 0 = .ok (.iload_n 1, 1) := by decide +kernel
theorem dX0_filled_1 : decode cX0_filled 1 = .ok (.istore_n 3, 1) := by decide +kernel
theorem dX0_filled_2 : decode cX0_filled 2 = .ok (.iconst 0, 1) := by decide +kernel
theorem dX0_filled_3 : decode cX0_filled 3 = .ok (.istore 4, 2) := by decide +kernel
theorem dX0_filled_5 : decode cX0_filled 5 = .ok (.iload 4, 2) := by decide +kernel
theorem dX0_filled_7 : decode cX0_filled 7 = .ok (.aload_n 0, 1) := by decide +kernel
theorem dX0_filled_8 : decode cX0_filled 8 = .ok (.getfield 26, 3) := by decide +kernel
theorem dX0_filled_11 : decode cX0_filled 11 = .ok (.if_icmp .ge 26, 3) := by decide +kernel
theorem dX0_filled_14 : decode cX0_filled 14 = .ok (.iload_n 2, 1) := by decide +kernel
theorem dX0_filled_15 : decode cX0_filled 15 = .ok (.iload 4, 2) := by decide +kernel
theorem dX0_filled_17 : decode cX0_filled 17 = .ok (.ishr, 1) := by decide +kernel
theorem dX0_filled_18 : decode cX0_filled 18 = .ok (.iconst 1, 1) := by decide +kernel
theorem dX0_filled_19 : decode cX0_filled 19 = .ok (.iand, 1) := by decide +kernel
theorem dX0_filled_20 : decode cX0_filled 20 = .ok (.ifCond .ne 11, 3) := by decide +kernel
theorem dX0_filled_23 : decode cX0_filled 23 = .ok (.iload_n 3, 1) := by decide +kernel
theorem dX0_filled_24 : decode cX0_filled 24 = .ok (.bipush 10, 2) := by decide +kernel
theorem dX0_filled_26 : decode cX0_filled 26 = .ok (.imul, 1) := by decide +kernel
theorem dX0_filled_27 : decode cX0_filled 27 = .ok (.iload 4, 2) := by decide +kernel
theorem dX0_filled_29 : decode cX0_filled 29 = .ok (.iadd, 1) := by decide +kernel
theorem dX0_filled_30 : decode cX0_filled 30 = .ok (.istore_n 3, 1) := by decide +kernel
theorem dX0_filled_31 : decode cX0_filled 31 = .ok (.iinc 4 1, 3) := by decide +kernel
theorem dX0_filled_34 : decode cX0_filled 34 = .ok (.goto (-29), 3) := by decide +kernel
theorem dX0_filled_37 : decode cX0_filled 37 = .ok (.iload_n 3, 1) := by decide +kernel
theorem dX0_filled_38 : decode cX0_filled 38 = .ok (.ireturn, 1) := by decide +kernel
theorem dX1_init_0 : decode cX1_init 0 = .ok (.aload_n 0, 1) := by decide +kernel
theorem dX1_init_1 : decode cX1_init 1 = .ok (.invokespecial 3, 3) := by decide +kernel
theorem dX1_init_4 : decode cX1_init 4 = .ok (.aload_n 0, 1) := by decide +kernel
theorem dX1_init_5 : decode cX1_init 5 = .ok (.sipush 2640, 3) := by decide +kernel
theorem dX1_init_8 : decode cX1_init 8 = .ok (.newarray .int, 2) := by decide +kernel
theorem dX1_init_10 : decode cX1_init 10 = .ok (.putfield 9, 3) := by decide +kernel
theorem dX1_init_13 : decode cX1_init 13 = .ok (.aload_n 0, 1) := by decide +kernel
theorem dX1_init_14 : decode cX1_init 14 = .ok (.bipush 60, 2) := by decide +kernel
theorem dX1_init_16 : decode cX1_init 16 = .ok (.newarray .int, 2) := by decide +kernel
theorem dX1_init_18 : decode cX1_init 18 = .ok (.putfield 15, 3) := by decide +kernel
theorem dX1_init_21 : decode cX1_init 21 = .ok (.aload_n 0, 1) := by decide +kernel
theorem dX1_init_22 : decode cX1_init 22 = .ok (.bipush 60, 2) := by decide +kernel
theorem dX1_init_24 : decode cX1_init 24 = .ok (.newarray .int, 2) := by decide +kernel
theorem dX1_init_26 : decode cX1_init 26 = .ok (.putfield 18, 3) := by decide +kernel
theorem dX1_init_29 : decode cX1_init 29 = .ok (.aload_n 0, 1) := by decide +kernel
theorem dX1_init_30 : decode cX1_init 30 = .ok (.bipush 66, 2) := by decide +kernel
theorem dX1_init_32 : decode cX1_init 32 = .ok (.newarray .int, 2) := by decide +kernel
theorem dX1_init_34 : decode cX1_init 34 = .ok (.putfield 21, 3) := by decide +kernel
theorem dX1_init_37 : decode cX1_init 37 = .ok (.return_, 1) := by decide +kernel
theorem dX1_clear_0 : decode cX1_clear 0 = .ok (.aload_n 0, 1) := by decide +kernel
theorem dX1_clear_1 : decode cX1_clear 1 = .ok (.iconst 0, 1) := by decide +kernel
theorem dX1_clear_2 : decode cX1_clear 2 = .ok (.putfield 24, 3) := by decide +kernel
theorem dX1_clear_5 : decode cX1_clear 5 = .ok (.aload_n 0, 1) := by decide +kernel
theorem dX1_clear_6 : decode cX1_clear 6 = .ok (.iconst 0, 1) := by decide +kernel
theorem dX1_clear_7 : decode cX1_clear 7 = .ok (.putfield 28, 3) := by decide +kernel
theorem dX1_clear_10 : decode cX1_clear 10 = .ok (.aload_n 0, 1) := by decide +kernel
theorem dX1_clear_11 : decode cX1_clear 11 = .ok (.iconst 0, 1) := by decide +kernel
theorem dX1_clear_12 : decode cX1_clear 12 = .ok (.putfield 31, 3) := by decide +kernel
theorem dX1_clear_15 : decode cX1_clear 15 = .ok (.return_, 1) := by decide +kernel
theorem dX1_takeImage_0 : decode cX1_takeImage 0 = .ok (.aload_n 1, 1) := by decide +kernel
theorem dX1_takeImage_1 : decode cX1_takeImage 1 = .ok (.getfield 35, 3) := by decide +kernel
theorem dX1_takeImage_4 : decode cX1_takeImage 4 = .ok (.iconst 0, 1) := by decide +kernel
theorem dX1_takeImage_5 : decode cX1_takeImage 5 = .ok (.aload_n 0, 1) := by decide +kernel
theorem dX1_takeImage_6 : decode cX1_takeImage 6 = .ok (.getfield 21, 3) := by decide +kernel
theorem dX1_takeImage_9 : decode cX1_takeImage 9 = .ok (.iconst 0, 1) := by decide +kernel
theorem dX1_takeImage_10 : decode cX1_takeImage 10 = .ok (.bipush 66, 2) := by decide +kernel
theorem dX1_takeImage_12 : decode cX1_takeImage 12 = .ok (.invokestatic 40, 3) := by decide +kernel
theorem dX1_takeImage_15 : decode cX1_takeImage 15 = .ok (.aload_n 0, 1) := by decide +kernel
theorem dX1_takeImage_16 : decode cX1_takeImage 16 = .ok (.iconst 1, 1) := by decide +kernel
theorem dX1_takeImage_17 : decode cX1_takeImage 17 = .ok (.putfield 31, 3) := by decide +kernel
theorem dX1_takeImage_20 : decode cX1_takeImage 20 = .ok (.return_, 1) := by decide +kernel
theorem dX1_giveImage_0 : decode cX1_giveImage 0 = .ok (.aload_n 0, 1) := by decide +kernel
theorem dX1_giveImage_1 : decode cX1_giveImage 1 = .ok (.getfield 21, 3) := by decide +kernel
theorem dX1_giveImage_4 : decode cX1_giveImage 4 = .ok (.iconst 0, 1) := by decide +kernel
theorem dX1_giveImage_5 : decode cX1_giveImage 5 = .ok (.aload_n 1, 1) := by decide +kernel
theorem dX1_giveImage_6 : decode cX1_giveImage 6 = .ok (.getfield 35, 3) := by decide +kernel
theorem dX1_giveImage_9 : decode cX1_giveImage 9 = .ok (.iconst 0, 1) := by decide +kernel
theorem dX1_giveImage_10 : decode cX1_giveImage 10 = .ok (.bipush 66, 2) := by decide +kernel
theorem dX1_giveImage_12 : decode cX1_giveImage 12 = .ok (.invokestatic 40, 3) := by decide +kernel
theorem dX1_giveImage_15 : decode cX1_giveImage 15 = .ok (.aload_n 0, 1) := by decide +kernel
theorem dX1_giveImage_16 : decode cX1_giveImage 16 = .ok (.iconst 0, 1) := by decide +kernel
theorem dX1_giveImage_17 : decode cX1_giveImage 17 = .ok (.putfield 24, 3) := by decide +kernel
theorem dX1_giveImage_20 : decode cX1_giveImage 20 = .ok (.return_, 1) := by decide +kernel
theorem dX1_keep_0 : decode cX1_keep 0 = .ok (.aload_n 1, 1) := by decide +kernel
theorem dX1_keep_1 : decode cX1_keep 1 = .ok (.getfield 35, 3) := by decide +kernel
theorem dX1_keep_4 : decode cX1_keep 4 = .ok (.iconst 0, 1) := by decide +kernel
theorem dX1_keep_5 : decode cX1_keep 5 = .ok (.aload_n 0, 1) := by decide +kernel
theorem dX1_keep_6 : decode cX1_keep 6 = .ok (.getfield 9, 3) := by decide +kernel
theorem dX1_keep_9 : decode cX1_keep 9 = .ok (.aload_n 0, 1) := by decide +kernel
theorem dX1_keep_10 : decode cX1_keep 10 = .ok (.getfield 46, 3) := by decide +kernel
theorem dX1_keep_13 : decode cX1_keep 13 = .ok (.bipush 66, 2) := by decide +kernel
theorem dX1_keep_15 : decode cX1_keep 15 = .ok (.imul, 1) := by decide +kernel
theorem dX1_keep_16 : decode cX1_keep 16 = .ok (.bipush 66, 2) := by decide +kernel
theorem dX1_keep_18 : decode cX1_keep 18 = .ok (.invokestatic 40, 3) := by decide +kernel
theorem dX1_keep_21 : decode cX1_keep 21 = .ok (.aload_n 0, 1) := by decide +kernel
theorem dX1_keep_22 : decode cX1_keep 22 = .ok (.aload_n 0, 1) := by decide +kernel
theorem dX1_keep_23 : decode cX1_keep 23 = .ok (.getfield 46, 3) := by decide +kernel
theorem dX1_keep_26 : decode cX1_keep 26 = .ok (.iconst 1, 1) := by decide +kernel
theorem dX1_keep_27 : decode cX1_keep 27 = .ok (.iadd, 1) := by decide +kernel
theorem dX1_keep_28 : decode cX1_keep 28 = .ok (.bipush 40, 2) := by decide +kernel
theorem dX1_keep_30 : decode cX1_keep 30 = .ok (.irem, 1) := by decide +kernel
theorem dX1_keep_31 : decode cX1_keep 31 = .ok (.putfield 46, 3) := by decide +kernel
theorem dX1_keep_34 : decode cX1_keep 34 = .ok (.aload_n 0, 1) := by decide +kernel
theorem dX1_keep_35 : decode cX1_keep 35 = .ok (.bipush 40, 2) := by decide +kernel
theorem dX1_keep_37 : decode cX1_keep 37 = .ok (.aload_n 0, 1) := by decide +kernel
theorem dX1_keep_38 : decode cX1_keep 38 = .ok (.getfield 24, 3) := by decide +kernel
theorem dX1_keep_41 : decode cX1_keep 41 = .ok (.iconst 1, 1) := by decide +kernel
theorem dX1_keep_42 : decode cX1_keep 42 = .ok (.iadd, 1) := by decide +kernel
theorem dX1_keep_43 : decode cX1_keep 43 = .ok (.invokestatic 49, 3) := by decide +kernel
theorem dX1_keep_46 : decode cX1_keep 46 = .ok (.putfield 24, 3) := by decide +kernel
theorem dX1_keep_49 : decode cX1_keep 49 = .ok (.return_, 1) := by decide +kernel
theorem dX1_note_0 : decode cX1_note 0 = .ok (.aload_n 0, 1) := by decide +kernel
theorem dX1_note_1 : decode cX1_note 1 = .ok (.getfield 15, 3) := by decide +kernel
theorem dX1_note_4 : decode cX1_note 4 = .ok (.aload_n 0, 1) := by decide +kernel
theorem dX1_note_5 : decode cX1_note 5 = .ok (.getfield 55, 3) := by decide +kernel
theorem dX1_note_8 : decode cX1_note 8 = .ok (.iload_n 1, 1) := by decide +kernel
theorem dX1_note_9 : decode cX1_note 9 = .ok (.iastore, 1) := by decide +kernel
theorem dX1_note_10 : decode cX1_note 10 = .ok (.aload_n 0, 1) := by decide +kernel
theorem dX1_note_11 : decode cX1_note 11 = .ok (.getfield 18, 3) := by decide +kernel
theorem dX1_note_14 : decode cX1_note 14 = .ok (.aload_n 0, 1) := by decide +kernel
theorem dX1_note_15 : decode cX1_note 15 = .ok (.getfield 55, 3) := by decide +kernel
theorem dX1_note_18 : decode cX1_note 18 = .ok (.iload_n 2, 1) := by decide +kernel
theorem dX1_note_19 : decode cX1_note 19 = .ok (.iastore, 1) := by decide +kernel
theorem dX1_note_20 : decode cX1_note 20 = .ok (.aload_n 0, 1) := by decide +kernel
theorem dX1_note_21 : decode cX1_note 21 = .ok (.aload_n 0, 1) := by decide +kernel
theorem dX1_note_22 : decode cX1_note 22 = .ok (.getfield 55, 3) := by decide +kernel
theorem dX1_note_25 : decode cX1_note 25 = .ok (.iconst 1, 1) := by decide +kernel
theorem dX1_note_26 : decode cX1_note 26 = .ok (.iadd, 1) := by decide +kernel
theorem dX1_note_27 : decode cX1_note 27 = .ok (.bipush 60, 2) := by decide +kernel
theorem dX1_note_29 : decode cX1_note 29 = .ok (.irem, 1) := by decide +kernel
theorem dX1_note_30 : decode cX1_note 30 = .ok (.putfield 55, 3) := by decide +kernel
theorem dX1_note_33 : decode cX1_note 33 = .ok (.aload_n 0, 1) := by decide +kernel
theorem dX1_note_34 : decode cX1_note 34 = .ok (.bipush 60, 2) := by decide +kernel
theorem dX1_note_36 : decode cX1_note 36 = .ok (.aload_n 0, 1) := by decide +kernel
theorem dX1_note_37 : decode cX1_note 37 = .ok (.getfield 28, 3) := by decide +kernel
theorem dX1_note_40 : decode cX1_note 40 = .ok (.iconst 1, 1) := by decide +kernel
theorem dX1_note_41 : decode cX1_note 41 = .ok (.iadd, 1) := by decide +kernel
theorem dX1_note_42 : decode cX1_note 42 = .ok (.invokestatic 49, 3) := by decide +kernel
theorem dX1_note_45 : decode cX1_note 45 = .ok (.putfield 28, 3) := by decide +kernel
theorem dX1_note_48 : decode cX1_note 48 = .ok (.return_, 1) := by decide +kernel
theorem dX1_takeBack_0 : decode cX1_takeBack 0 = .ok (.aload_n 0, 1) := by decide +kernel
theorem dX1_takeBack_1 : decode cX1_takeBack 1 = .ok (.getfield 24, 3) := by decide +kernel
theorem dX1_takeBack_4 : decode cX1_takeBack 4 = .ok (.ifCond .ne 5, 3) := by decide +kernel
theorem dX1_takeBack_7 : decode cX1_takeBack 7 = .ok (.iconst (-1), 1) := by decide +kernel
theorem dX1_takeBack_8 : decode cX1_takeBack 8 = .ok (.ireturn, 1) := by decide +kernel
theorem dX1_takeBack_9 : decode cX1_takeBack 9 = .ok (.aload_n 0, 1) := by decide +kernel
theorem dX1_takeBack_10 : decode cX1_takeBack 10 = .ok (.aload_n 0, 1) := by decide +kernel
theorem dX1_takeBack_11 : decode cX1_takeBack 11 = .ok (.getfield 46, 3) := by decide +kernel
theorem dX1_takeBack_14 : decode cX1_takeBack 14 = .ok (.bipush 40, 2) := by decide +kernel
theorem dX1_takeBack_16 : decode cX1_takeBack 16 = .ok (.iadd, 1) := by decide +kernel
theorem dX1_takeBack_17 : decode cX1_takeBack 17 = .ok (.iconst 1, 1) := by decide +kernel
theorem dX1_takeBack_18 : decode cX1_takeBack 18 = .ok (.isub, 1) := by decide +kernel
theorem dX1_takeBack_19 : decode cX1_takeBack 19 = .ok (.bipush 40, 2) := by decide +kernel
theorem dX1_takeBack_21 : decode cX1_takeBack 21 = .ok (.irem, 1) := by decide +kernel
theorem dX1_takeBack_22 : decode cX1_takeBack 22 = .ok (.putfield 46, 3) := by decide +kernel
theorem dX1_takeBack_25 : decode cX1_takeBack 25 = .ok (.aload_n 0, 1) := by decide +kernel
theorem dX1_takeBack_26 : decode cX1_takeBack 26 = .ok (.getfield 9, 3) := by decide +kernel
theorem dX1_takeBack_29 : decode cX1_takeBack 29 = .ok (.aload_n 0, 1) := by decide +kernel
theorem dX1_takeBack_30 : decode cX1_takeBack 30 = .ok (.getfield 46, 3) := by decide +kernel
theorem dX1_takeBack_33 : decode cX1_takeBack 33 = .ok (.bipush 66, 2) := by decide +kernel
theorem dX1_takeBack_35 : decode cX1_takeBack 35 = .ok (.imul, 1) := by decide +kernel
theorem dX1_takeBack_36 : decode cX1_takeBack 36 = .ok (.aload_n 1, 1) := by decide +kernel
theorem dX1_takeBack_37 : decode cX1_takeBack 37 = .ok (.getfield 35, 3) := by decide +kernel
theorem dX1_takeBack_40 : decode cX1_takeBack 40 = .ok (.iconst 0, 1) := by decide +kernel
theorem dX1_takeBack_41 : decode cX1_takeBack 41 = .ok (.bipush 66, 2) := by decide +kernel
theorem dX1_takeBack_43 : decode cX1_takeBack 43 = .ok (.invokestatic 40, 3) := by decide +kernel
theorem dX1_takeBack_46 : decode cX1_takeBack 46 = .ok (.aload_n 0, 1) := by decide +kernel
theorem dX1_takeBack_47 : decode cX1_takeBack 47 = .ok (.dup, 1) := by decide +kernel
theorem dX1_takeBack_48 : decode cX1_takeBack 48 = .ok (.getfield 24, 3) := by decide +kernel
theorem dX1_takeBack_51 : decode cX1_takeBack 51 = .ok (.iconst 1, 1) := by decide +kernel
theorem dX1_takeBack_52 : decode cX1_takeBack 52 = .ok (.isub, 1) := by decide +kernel
theorem dX1_takeBack_53 : decode cX1_takeBack 53 = .ok (.putfield 24, 3) := by decide +kernel
theorem dX1_takeBack_56 : decode cX1_takeBack 56 = .ok (.aload_n 0, 1) := by decide +kernel
theorem dX1_takeBack_57 : decode cX1_takeBack 57 = .ok (.aload_n 0, 1) := by decide +kernel
theorem dX1_takeBack_58 : decode cX1_takeBack 58 = .ok (.getfield 55, 3) := by decide +kernel
theorem dX1_takeBack_61 : decode cX1_takeBack 61 = .ok (.bipush 60, 2) := by decide +kernel
theorem dX1_takeBack_63 : decode cX1_takeBack 63 = .ok (.iadd, 1) := by decide +kernel
theorem dX1_takeBack_64 : decode cX1_takeBack 64 = .ok (.iconst 1, 1) := by decide +kernel
theorem dX1_takeBack_65 : decode cX1_takeBack 65 = .ok (.isub, 1) := by decide +kernel
theorem dX1_takeBack_66 : decode cX1_takeBack 66 = .ok (.bipush 60, 2) := by decide +kernel
theorem dX1_takeBack_68 : decode cX1_takeBack 68 = .ok (.irem, 1) := by decide +kernel
theorem dX1_takeBack_69 : decode cX1_takeBack 69 = .ok (.putfield 55, 3) := by decide +kernel
theorem dX1_takeBack_72 : decode cX1_takeBack 72 = .ok (.aload_n 0, 1) := by decide +kernel
theorem dX1_takeBack_73 : decode cX1_takeBack 73 = .ok (.iconst 0, 1) := by decide +kernel
theorem dX1_takeBack_74 : decode cX1_takeBack 74 = .ok (.aload_n 0, 1) := by decide +kernel
theorem dX1_takeBack_75 : decode cX1_takeBack 75 = .ok (.getfield 28, 3) := by decide +kernel
theorem dX1_takeBack_78 : decode cX1_takeBack 78 = .ok (.iconst 1, 1) := by decide +kernel
theorem dX1_takeBack_79 : decode cX1_takeBack 79 = .ok (.isub, 1) := by decide +kernel
theorem dX1_takeBack_80 : decode cX1_takeBack 80 = .ok (.invokestatic 58, 3) := by decide +kernel
theorem dX1_takeBack_83 : decode cX1_takeBack 83 = .ok (.putfield 28, 3) := by decide +kernel
theorem dX1_takeBack_86 : decode cX1_takeBack 86 = .ok (.aload_n 0, 1) := by decide +kernel
theorem dX1_takeBack_87 : decode cX1_takeBack 87 = .ok (.getfield 24, 3) := by decide +kernel
theorem dX1_takeBack_90 : decode cX1_takeBack 90 = .ok (.ireturn, 1) := by decide +kernel
theorem dX1_noteAt_0 : decode cX1_noteAt 0 = .ok (.aload_n 0, 1) := by decide +kernel
theorem dX1_noteAt_1 : decode cX1_noteAt 1 = .ok (.getfield 55, 3) := by decide +kernel
theorem dX1_noteAt_4 : decode cX1_noteAt 4 = .ok (.bipush 120, 2) := by decide +kernel
theorem dX1_noteAt_6 : decode cX1_noteAt 6 = .ok (.iadd, 1) := by decide +kernel
theorem dX1_noteAt_7 : decode cX1_noteAt 7 = .ok (.iconst 1, 1) := by decide +kernel
theorem dX1_noteAt_8 : decode cX1_noteAt 8 = .ok (.isub, 1) := by decide +kernel
theorem dX1_noteAt_9 : decode cX1_noteAt 9 = .ok (.iload_n 1, 1) := by decide +kernel
theorem dX1_noteAt_10 : decode cX1_noteAt 10 = .ok (.isub, 1) := by decide +kernel
theorem dX1_noteAt_11 : decode cX1_noteAt 11 = .ok (.bipush 60, 2) := by decide +kernel
theorem dX1_noteAt_13 : decode cX1_noteAt 13 = .ok (.irem, 1) := by decide +kernel
theorem dX1_noteAt_14 : decode cX1_noteAt 14 = .ok (.istore_n 3, 1) := by decide +kernel
theorem dX1_noteAt_15 : decode cX1_noteAt 15 = .ok (.iload_n 3, 1) := by decide +kernel
theorem dX1_noteAt_16 : decode cX1_noteAt 16 = .ok (.ifCond .ge 5, 3) := by decide +kernel
theorem dX1_noteAt_19 : decode cX1_noteAt 19 = .ok (.iconst (-1), 1) := by decide +kernel
theorem dX1_noteAt_20 : decode cX1_noteAt 20 = .ok (.ireturn, 1) := by decide +kernel
theorem dX1_noteAt_21 : decode cX1_noteAt 21 = .ok (.iload_n 2, 1) := by decide +kernel
theorem dX1_noteAt_22 : decode cX1_noteAt 22 = .ok (.ifCond .ne 12, 3) := by decide +kernel
theorem dX1_noteAt_25 : decode cX1_noteAt 25 = .ok (.aload_n 0, 1) := by decide +kernel
theorem dX1_noteAt_26 : decode cX1_noteAt 26 = .ok (.getfield 15, 3) := by decide +kernel
theorem dX1_noteAt_29 : decode cX1_noteAt 29 = .ok (.iload_n 3, 1) := by decide +kernel
theorem dX1_noteAt_30 : decode cX1_noteAt 30 = .ok (.iaload, 1) := by decide +kernel
theorem dX1_noteAt_31 : decode cX1_noteAt 31 = .ok (.goto 9, 3) := by decide +kernel
theorem dX1_noteAt_34 : decode cX1_noteAt 34 = .ok (.aload_n 0, 1) := by decide +kernel
theorem dX1_noteAt_35 : decode cX1_noteAt 35 = .ok (.getfield 18, 3) := by decide +kernel
theorem dX1_noteAt_38 : decode cX1_noteAt 38 = .ok (.iload_n 3, 1) := by decide +kernel
theorem dX1_noteAt_39 : decode cX1_noteAt 39 = .ok (.iaload, 1) := by decide +kernel
theorem dX1_noteAt_40 : decode cX1_noteAt 40 = .ok (.ireturn, 1) := by decide +kernel
theorem dX2_init_0 : decode cX2_init 0 = .ok (.aload_n 0, 1) := by decide +kernel
theorem dX2_init_1 : decode cX2_init 1 = .ok (.invokespecial 3, 3) := by decide +kernel
theorem dX2_init_4 : decode cX2_init 4 = .ok (.aload_n 0, 1) := by decide +kernel
theorem dX2_init_5 : decode cX2_init 5 = .ok (.bipush 6, 2) := by decide +kernel
theorem dX2_init_7 : decode cX2_init 7 = .ok (.newarray .int, 2) := by decide +kernel
theorem dX2_init_9 : decode cX2_init 9 = .ok (.putfield 9, 3) := by decide +kernel
theorem dX2_init_12 : decode cX2_init 12 = .ok (.aload_n 0, 1) := by decide +kernel
theorem dX2_init_13 : decode cX2_init 13 = .ok (.bipush 64, 2) := by decide +kernel
theorem dX2_init_15 : decode cX2_init 15 = .ok (.newarray .int, 2) := by decide +kernel
theorem dX2_init_17 : decode cX2_init 17 = .ok (.putfield 15, 3) := by decide +kernel
theorem dX2_init_20 : decode cX2_init 20 = .ok (.return_, 1) := by decide +kernel
theorem dX2_plainWorth_0 : decode cX2_plainWorth 0 = .ok (.aload_n 0, 1) := by decide +kernel
theorem dX2_plainWorth_1 : decode cX2_plainWorth 1 = .ok (.getfield 9, 3) := by decide +kernel
theorem dX2_plainWorth_4 : decode cX2_plainWorth 4 = .ok (.iconst 3, 1) := by decide +kernel
theorem dX2_plainWorth_5 : decode cX2_plainWorth 5 = .ok (.iaload, 1) := by decide +kernel
theorem dX2_plainWorth_6 : decode cX2_plainWorth 6 = .ok (.aload_n 0, 1) := by decide +kernel
theorem dX2_plainWorth_7 : decode cX2_plainWorth 7 = .ok (.getfield 9, 3) := by decide +kernel
theorem dX2_plainWorth_10 : decode cX2_plainWorth 10 = .ok (.iconst 1, 1) := by decide +kernel
theorem dX2_plainWorth_11 : decode cX2_plainWorth 11 = .ok (.iaload, 1) := by decide +kernel
theorem dX2_plainWorth_12 : decode cX2_plainWorth 12 = .ok (.if_icmp .le 19, 3) := by decide +kernel
theorem dX2_plainWorth_15 : decode cX2_plainWorth 15 = .ok (.aload_n 0, 1) := by decide +kernel
theorem dX2_plainWorth_16 : decode cX2_plainWorth 16 = .ok (.getfield 9, 3) := by decide +kernel
theorem dX2_plainWorth_19 : decode cX2_plainWorth 19 = .ok (.iconst 3, 1) := by decide +kernel
theorem dX2_plainWorth_20 : decode cX2_plainWorth 20 = .ok (.iaload, 1) := by decide +kernel
theorem dX2_plainWorth_21 : decode cX2_plainWorth 21 = .ok (.aload_n 0, 1) := by decide +kernel
theorem dX2_plainWorth_22 : decode cX2_plainWorth 22 = .ok (.getfield 9, 3) := by decide +kernel
theorem dX2_plainWorth_25 : decode cX2_plainWorth 25 = .ok (.iconst 1, 1) := by decide +kernel
theorem dX2_plainWorth_26 : decode cX2_plainWorth 26 = .ok (.iaload, 1) := by decide +kernel
theorem dX2_plainWorth_27 : decode cX2_plainWorth 27 = .ok (.isub, 1) := by decide +kernel
theorem dX2_plainWorth_28 : decode cX2_plainWorth 28 = .ok (.goto 4, 3) := by decide +kernel
theorem dX2_plainWorth_31 : decode cX2_plainWorth 31 = .ok (.iconst 0, 1) := by decide +kernel
theorem dX2_plainWorth_32 : decode cX2_plainWorth 32 = .ok (.istore_n 1, 1) := by decide +kernel
theorem dX2_plainWorth_33 : decode cX2_plainWorth 33 = .ok (.aload_n 0, 1) := by decide +kernel
theorem dX2_plainWorth_34 : decode cX2_plainWorth 34 = .ok (.getfield 9, 3) := by decide +kernel
theorem dX2_plainWorth_37 : decode cX2_plainWorth 37 = .ok (.iconst 0, 1) := by decide +kernel
theorem dX2_plainWorth_38 : decode cX2_plainWorth 38 = .ok (.iaload, 1) := by decide +kernel
theorem dX2_plainWorth_39 : decode cX2_plainWorth 39 = .ok (.aload_n 0, 1) := by decide +kernel
theorem dX2_plainWorth_40 : decode cX2_plainWorth 40 = .ok (.getfield 9, 3) := by decide +kernel
theorem dX2_plainWorth_43 : decode cX2_plainWorth 43 = .ok (.iconst 5, 1) := by decide +kernel
theorem dX2_plainWorth_44 : decode cX2_plainWorth 44 = .ok (.iaload, 1) := by decide +kernel
theorem dX2_plainWorth_45 : decode cX2_plainWorth 45 = .ok (.iadd, 1) := by decide +kernel
theorem dX2_plainWorth_46 : decode cX2_plainWorth 46 = .ok (.iconst 4, 1) := by decide +kernel
theorem dX2_plainWorth_47 : decode cX2_plainWorth 47 = .ok (.aload_n 0, 1) := by decide +kernel
theorem dX2_plainWorth_48 : decode cX2_plainWorth 48 = .ok (.getfield 9, 3) := by decide +kernel
theorem dX2_plainWorth_51 : decode cX2_plainWorth 51 = .ok (.iconst 2, 1) := by decide +kernel
theorem dX2_plainWorth_52 : decode cX2_plainWorth 52 = .ok (.iaload, 1) := by decide +kernel
theorem dX2_plainWorth_53 : decode cX2_plainWorth 53 = .ok (.imul, 1) := by decide +kernel
theorem dX2_plainWorth_54 : decode cX2_plainWorth 54 = .ok (.isub, 1) := by decide +kernel
theorem dX2_plainWorth_55 : decode cX2_plainWorth 55 = .ok (.iconst 3, 1) := by decide +kernel
theorem dX2_plainWorth_56 : decode cX2_plainWorth 56 = .ok (.iload_n 1, 1) := by decide +kernel
theorem dX2_plainWorth_57 : decode cX2_plainWorth 57 = .ok (.imul, 1) := by decide +kernel
theorem dX2_plainWorth_58 : decode cX2_plainWorth 58 = .ok (.isub, 1) := by decide +kernel
theorem dX2_plainWorth_59 : decode cX2_plainWorth 59 = .ok (.aload_n 0, 1) := by decide +kernel
theorem dX2_plainWorth_60 : decode cX2_plainWorth 60 = .ok (.getfield 9, 3) := by decide +kernel
theorem dX2_plainWorth_63 : decode cX2_plainWorth 63 = .ok (.iconst 4, 1) := by decide +kernel
theorem dX2_plainWorth_64 : decode cX2_plainWorth 64 = .ok (.iaload, 1) := by decide +kernel
theorem dX2_plainWorth_65 : decode cX2_plainWorth 65 = .ok (.isub, 1) := by decide +kernel
theorem dX2_plainWorth_66 : decode cX2_plainWorth 66 = .ok (.ireturn, 1) := by decide +kernel
theorem dX2_lawWorth_0 : decode cX2_lawWorth 0 = .ok (.iconst 0, 1) := by decide +kernel
theorem dX2_lawWorth_1 : decode cX2_lawWorth 1 = .ok (.istore_n 2, 1) := by decide +kernel
theorem dX2_lawWorth_2 : decode cX2_lawWorth 2 = .ok (.iconst 0, 1) := by decide +kernel
theorem dX2_lawWorth_3 : decode cX2_lawWorth 3 = .ok (.istore_n 3, 1) := by decide +kernel
theorem dX2_lawWorth_4 : decode cX2_lawWorth 4 = .ok (.iconst 0, 1) := by decide +kernel
theorem dX2_lawWorth_5 : decode cX2_lawWorth 5 = .ok (.istore 4, 2) := by decide +kernel
theorem dX2_lawWorth_7 : decode cX2_lawWorth 7 = .ok (.iload 4, 2) := by decide +kernel
theorem dX2_lawWorth_9 : decode cX2_lawWorth 9 = .ok (.aload_n 1, 1) := by decide +kernel
theorem dX2_lawWorth_10 : decode cX2_lawWorth 10 = .ok (.arraylength, 1) := by decide +kernel
theorem dX2_lawWorth_11 : decode cX2_lawWorth 11 = .ok (.if_icmp .ge 179, 3) := by decide +kernel
theorem dX2_lawWorth_14 : decode cX2_lawWorth 14 = .ok (.aload_n 1, 1) := by decide +kernel
theorem dX2_lawWorth_15 : decode cX2_lawWorth 15 = .ok (.iload 4, 2) := by decide +kernel
theorem dX2_lawWorth_17 : decode cX2_lawWorth 17 = .ok (.iaload, 1) := by decide +kernel
theorem dX2_lawWorth_18 : decode cX2_lawWorth 18 = .ok (.istore 5, 2) := by decide +kernel
theorem dX2_lawWorth_20 : decode cX2_lawWorth 20 = .ok (.iload_n 3, 1) := by decide +kernel
theorem dX2_lawWorth_21 : decode cX2_lawWorth 21 = .ok (.ifCond .eq 19, 3) := by decide +kernel
theorem dX2_lawWorth_24 : decode cX2_lawWorth 24 = .ok (.iload 5, 2) := by decide +kernel
theorem dX2_lawWorth_26 : decode cX2_lawWorth 26 = .ok (.bipush 59, 2) := by decide +kernel
theorem dX2_lawWorth_28 : decode cX2_lawWorth 28 = .ok (.if_icmp .eq 7, 3) := by decide +kernel
theorem dX2_lawWorth_31 : decode cX2_lawWorth 31 = .ok (.iconst 1, 1) := by decide +kernel
theorem dX2_lawWorth_32 : decode cX2_lawWorth 32 = .ok (.goto 4, 3) := by decide +kernel
theorem dX2_lawWorth_35 : decode cX2_lawWorth 35 = .ok (.iconst 0, 1) := by decide +kernel
theorem dX2_lawWorth_36 : decode cX2_lawWorth 36 = .ok (.istore_n 3, 1) := by decide +kernel
theorem dX2_lawWorth_37 : decode cX2_lawWorth 37 = .ok (.goto 147, 3) := by decide +kernel
theorem dX2_lawWorth_40 : decode cX2_lawWorth 40 = .ok (.iload 5, 2) := by decide +kernel
theorem dX2_lawWorth_42 : decode cX2_lawWorth 42 = .ok (.bipush 59, 2) := by decide +kernel
theorem dX2_lawWorth_44 : decode cX2_lawWorth 44 = .ok (.if_icmp .ne 10, 3) := by decide +kernel
theorem dX2_lawWorth_47 : decode cX2_lawWorth 47 = .ok (.aload_n 0, 1) := by decide +kernel
theorem dX2_lawWorth_48 : decode cX2_lawWorth 48 = .ok (.getfield 15, 3) := by decide +kernel
theorem dX2_lawWorth_51 : decode cX2_lawWorth 51 = .ok (.iconst 0, 1) := by decide +kernel
theorem dX2_lawWorth_52 : decode cX2_lawWorth 52 = .ok (.iaload, 1) := by decide +kernel
theorem dX2_lawWorth_53 : decode cX2_lawWorth 53 = .ok (.ireturn, 1) := by decide +kernel
theorem dX2_lawWorth_54 : decode cX2_lawWorth 54 = .ok (.iload 5, 2) := by decide +kernel
theorem dX2_lawWorth_56 : decode cX2_lawWorth 56 = .ok (.bipush 63, 2) := by decide +kernel
theorem dX2_lawWorth_58 : decode cX2_lawWorth 58 = .ok (.if_icmp .ne 23, 3) := by decide +kernel
theorem dX2_lawWorth_61 : decode cX2_lawWorth 61 = .ok (.aload_n 0, 1) := by decide +kernel
theorem dX2_lawWorth_62 : decode cX2_lawWorth 62 = .ok (.getfield 15, 3) := by decide +kernel
theorem dX2_lawWorth_65 : decode cX2_lawWorth 65 = .ok (.iconst 0, 1) := by decide +kernel
theorem dX2_lawWorth_66 : decode cX2_lawWorth 66 = .ok (.iaload, 1) := by decide +kernel
theorem dX2_lawWorth_67 : decode cX2_lawWorth 67 = .ok (.ifCond .ne 7, 3) := by decide +kernel
theorem dX2_lawWorth_70 : decode cX2_lawWorth 70 = .ok (.iconst 1, 1) := by decide +kernel
theorem dX2_lawWorth_71 : decode cX2_lawWorth 71 = .ok (.goto 4, 3) := by decide +kernel
theorem dX2_lawWorth_74 : decode cX2_lawWorth 74 = .ok (.iconst 0, 1) := by decide +kernel
theorem dX2_lawWorth_75 : decode cX2_lawWorth 75 = .ok (.istore_n 3, 1) := by decide +kernel
theorem dX2_lawWorth_76 : decode cX2_lawWorth 76 = .ok (.iconst 0, 1) := by decide +kernel
theorem dX2_lawWorth_77 : decode cX2_lawWorth 77 = .ok (.istore_n 2, 1) := by decide +kernel
theorem dX2_lawWorth_78 : decode cX2_lawWorth 78 = .ok (.goto 106, 3) := by decide +kernel
theorem dX2_lawWorth_81 : decode cX2_lawWorth 81 = .ok (.iload 5, 2) := by decide +kernel
theorem dX2_lawWorth_83 : decode cX2_lawWorth 83 = .ok (.sipush 1000, 3) := by decide +kernel
theorem dX2_lawWorth_86 : decode cX2_lawWorth 86 = .ok (.if_icmp .lt 30, 3) := by decide +kernel
theorem dX2_lawWorth_89 : decode cX2_lawWorth 89 = .ok (.iload_n 2, 1) := by decide +kernel
theorem dX2_lawWorth_90 : decode cX2_lawWorth 90 = .ok (.aload_n 0, 1) := by decide +kernel
theorem dX2_lawWorth_91 : decode cX2_lawWorth 91 = .ok (.getfield 15, 3) := by decide +kernel
theorem dX2_lawWorth_94 : decode cX2_lawWorth 94 = .ok (.arraylength, 1) := by decide +kernel
theorem dX2_lawWorth_95 : decode cX2_lawWorth 95 = .ok (.if_icmp .ge 89, 3) := by decide +kernel
theorem dX2_lawWorth_98 : decode cX2_lawWorth 98 = .ok (.aload_n 0, 1) := by decide +kernel
theorem dX2_lawWorth_99 : decode cX2_lawWorth 99 = .ok (.getfield 15, 3) := by decide +kernel
theorem dX2_lawWorth_102 : decode cX2_lawWorth 102 = .ok (.iload_n 2, 1) := by decide +kernel
theorem dX2_lawWorth_103 : decode cX2_lawWorth 103 = .ok (.aload_n 0, 1) := by decide +kernel
theorem dX2_lawWorth_104 : decode cX2_lawWorth 104 = .ok (.iload 5, 2) := by decide +kernel
theorem dX2_lawWorth_106 : decode cX2_lawWorth 106 = .ok (.invokevirtual 18, 3) := by decide +kernel
theorem dX2_lawWorth_109 : decode cX2_lawWorth 109 = .ok (.iastore, 1) := by decide +kernel
theorem dX2_lawWorth_110 : decode cX2_lawWorth 110 = .ok (.iinc 2 1, 3) := by decide +kernel
theorem dX2_lawWorth_113 : decode cX2_lawWorth 113 = .ok (.goto 71, 3) := by decide +kernel
theorem dX2_lawWorth_116 : decode cX2_lawWorth 116 = .ok (.iload 5, 2) := by decide +kernel
theorem dX2_lawWorth_118 : decode cX2_lawWorth 118 = .ok (.bipush 33, 2) := by decide +kernel
theorem dX2_lawWorth_120 : decode cX2_lawWorth 120 = .ok (.if_icmp .ne 29, 3) := by decide +kernel
theorem dX2_lawWorth_123 : decode cX2_lawWorth 123 = .ok (.iload_n 2, 1) := by decide +kernel
theorem dX2_lawWorth_124 : decode cX2_lawWorth 124 = .ok (.iconst 1, 1) := by decide +kernel
theorem dX2_lawWorth_125 : decode cX2_lawWorth 125 = .ok (.if_icmp .lt 59, 3) := by decide +kernel
theorem dX2_lawWorth_128 : decode cX2_lawWorth 128 = .ok (.aload_n 0, 1) := by decide +kernel
theorem dX2_lawWorth_129 : decode cX2_lawWorth 129 = .ok (.getfield 15, 3) := by decide +kernel
theorem dX2_lawWorth_132 : decode cX2_lawWorth 132 = .ok (.iload_n 2, 1) := by decide +kernel
theorem dX2_lawWorth_133 : decode cX2_lawWorth 133 = .ok (.iconst 1, 1) := by decide +kernel
theorem dX2_lawWorth_134 : decode cX2_lawWorth 134 = .ok (.isub, 1) := by decide +kernel
theorem dX2_lawWorth_135 : decode cX2_lawWorth 135 = .ok (.iconst 1, 1) := by decide +kernel
theorem dX2_lawWorth_136 : decode cX2_lawWorth 136 = .ok (.aload_n 0, 1) := by decide +kernel
theorem dX2_lawWorth_137 : decode cX2_lawWorth 137 = .ok (.getfield 15, 3) := by decide +kernel
theorem dX2_lawWorth_140 : decode cX2_lawWorth 140 = .ok (.iload_n 2, 1) := by decide +kernel
theorem dX2_lawWorth_141 : decode cX2_lawWorth 141 = .ok (.iconst 1, 1) := by decide +kernel
theorem dX2_lawWorth_142 : decode cX2_lawWorth 142 = .ok (.isub, 1) := by decide +kernel
theorem dX2_lawWorth_143 : decode cX2_lawWorth 143 = .ok (.iaload, 1) := by decide +kernel
theorem dX2_lawWorth_144 : decode cX2_lawWorth 144 = .ok (.isub, 1) := by decide +kernel
theorem dX2_lawWorth_145 : decode cX2_lawWorth 145 = .ok (.iastore, 1) := by decide +kernel
theorem dX2_lawWorth_146 : decode cX2_lawWorth 146 = .ok (.goto 38, 3) := by decide +kernel
theorem dX2_lawWorth_149 : decode cX2_lawWorth 149 = .ok (.iload_n 2, 1) := by decide +kernel
theorem dX2_lawWorth_150 : decode cX2_lawWorth 150 = .ok (.iconst 2, 1) := by decide +kernel
theorem dX2_lawWorth_151 : decode cX2_lawWorth 151 = .ok (.if_icmp .lt 33, 3) := by decide +kernel
theorem dX2_lawWorth_154 : decode cX2_lawWorth 154 = .ok (.iinc 2 (-1), 3) := by decide +kernel
theorem dX2_lawWorth_157 : decode cX2_lawWorth 157 = .ok (.aload_n 0, 1) := by decide +kernel
theorem dX2_lawWorth_158 : decode cX2_lawWorth 158 = .ok (.getfield 15, 3) := by decide +kernel
theorem dX2_lawWorth_161 : decode cX2_lawWorth 161 = .ok (.iload_n 2, 1) := by decide +kernel
theorem dX2_lawWorth_162 : decode cX2_lawWorth 162 = .ok (.iconst 1, 1) := by decide +kernel
theorem dX2_lawWorth_163 : decode cX2_lawWorth 163 = .ok (.isub, 1) := by decide +kernel
theorem dX2_lawWorth_164 : decode cX2_lawWorth 164 = .ok (.iload 5, 2) := by decide +kernel
theorem dX2_lawWorth_166 : decode cX2_lawWorth 166 = .ok (.aload_n 0, 1) := by decide +kernel
theorem dX2_lawWorth_167 : decode cX2_lawWorth 167 = .ok (.getfield 15, 3) := by decide +kernel
theorem dX2_lawWorth_170 : decode cX2_lawWorth 170 = .ok (.iload_n 2, 1) := by decide +kernel
theorem dX2_lawWorth_171 : decode cX2_lawWorth 171 = .ok (.iconst 1, 1) := by decide +kernel
theorem dX2_lawWorth_172 : decode cX2_lawWorth 172 = .ok (.isub, 1) := by decide +kernel
theorem dX2_lawWorth_173 : decode cX2_lawWorth 173 = .ok (.iaload, 1) := by decide +kernel
theorem dX2_lawWorth_174 : decode cX2_lawWorth 174 = .ok (.aload_n 0, 1) := by decide +kernel
theorem dX2_lawWorth_175 : decode cX2_lawWorth 175 = .ok (.getfield 15, 3) := by decide +kernel
theorem dX2_lawWorth_178 : decode cX2_lawWorth 178 = .ok (.iload_n 2, 1) := by decide +kernel
theorem dX2_lawWorth_179 : decode cX2_lawWorth 179 = .ok (.iaload, 1) := by decide +kernel
theorem dX2_lawWorth_180 : decode cX2_lawWorth 180 = .ok (.invokestatic 22, 3) := by decide +kernel
theorem dX2_lawWorth_183 : decode cX2_lawWorth 183 = .ok (.iastore, 1) := by decide +kernel
theorem dX2_lawWorth_184 : decode cX2_lawWorth 184 = .ok (.iinc 4 1, 3) := by decide +kernel
theorem dX2_lawWorth_187 : decode cX2_lawWorth 187 = .ok (.goto (-180), 3) := by decide +kernel
theorem dX2_lawWorth_190 : decode cX2_lawWorth 190 = .ok (.iconst 0, 1) := by decide +kernel
theorem dX2_lawWorth_191 : decode cX2_lawWorth 191 = .ok (.ireturn, 1) := by decide +kernel
theorem dX2_valueOf_0 : decode cX2_valueOf 0 = .ok (.iload_n 1, 1) := by decide +kernel
theorem dX2_valueOf_1 : decode cX2_valueOf 1 = .ok (.sipush 2000, 3) := by decide +kernel
theorem dX2_valueOf_4 : decode cX2_valueOf 4 = .ok (.if_icmp .lt 9, 3) := by decide +kernel
theorem dX2_valueOf_7 : decode cX2_valueOf 7 = .ok (.iload_n 1, 1) := by decide +kernel
theorem dX2_valueOf_8 : decode cX2_valueOf 8 = .ok (.sipush 2000, 3) := by decide +kernel
theorem dX2_valueOf_11 : decode cX2_valueOf 11 = .ok (.isub, 1) := by decide +kernel
theorem dX2_valueOf_12 : decode cX2_valueOf 12 = .ok (.ireturn, 1) := by decide +kernel
theorem dX2_valueOf_13 : decode cX2_valueOf 13 = .ok (.iload_n 1, 1) := by decide +kernel
theorem dX2_valueOf_14 : decode cX2_valueOf 14 = .ok (.sipush 1000, 3) := by decide +kernel
theorem dX2_valueOf_17 : decode cX2_valueOf 17 = .ok (.isub, 1) := by decide +kernel
theorem dX2_valueOf_18 : decode cX2_valueOf 18 = .ok (.istore_n 2, 1) := by decide +kernel
theorem dX2_valueOf_19 : decode cX2_valueOf 19 = .ok (.iload_n 2, 1) := by decide +kernel
theorem dX2_valueOf_20 : decode cX2_valueOf 20 = .ok (.ifCond .lt 21, 3) := by decide +kernel
theorem dX2_valueOf_23 : decode cX2_valueOf 23 = .ok (.iload_n 2, 1) := by decide +kernel
theorem dX2_valueOf_24 : decode cX2_valueOf 24 = .ok (.aload_n 0, 1) := by decide +kernel
theorem dX2_valueOf_25 : decode cX2_valueOf 25 = .ok (.getfield 9, 3) := by decide +kernel
theorem dX2_valueOf_28 : decode cX2_valueOf 28 = .ok (.arraylength, 1) := by decide +kernel
theorem dX2_valueOf_29 : decode cX2_valueOf 29 = .ok (.if_icmp .ge 12, 3) := by decide +kernel
theorem dX2_valueOf_32 : decode cX2_valueOf 32 = .ok (.aload_n 0, 1) := by decide +kernel
theorem dX2_valueOf_33 : decode cX2_valueOf 33 = .ok (.getfield 9, 3) := by decide +kernel
theorem dX2_valueOf_36 : decode cX2_valueOf 36 = .ok (.iload_n 2, 1) := by decide +kernel
theorem dX2_valueOf_37 : decode cX2_valueOf 37 = .ok (.iaload, 1) := by decide +kernel
theorem dX2_valueOf_38 : decode cX2_valueOf 38 = .ok (.goto 4, 3) := by decide +kernel
theorem dX2_valueOf_41 : decode cX2_valueOf 41 = .ok (.iconst 0, 1) := by decide +kernel
theorem dX2_valueOf_42 : decode cX2_valueOf 42 = .ok (.ireturn, 1) := by decide +kernel
theorem dX2_joined_0 : decode cX2_joined 0 = .ok (.iload_n 0, 1) := by decide +kernel
theorem dX2_joined_1 : decode cX2_joined 1 = .ok (.tableswitch 195 38 62 #[191, 195, 195, 195, 133, 115, 195, 124, 195, 142, 195, 195, 195, 195, 195, 195, 195, 195, 195, 195, 195, 195, 169, 158, 180], 115) := by decide +kernel
theorem dX2_joined_116 : decode cX2_joined 116 = .ok (.iload_n 1, 1) := by decide +kernel
theorem dX2_joined_117 : decode cX2_joined 117 = .ok (.i2l, 1) := by decide +kernel
theorem dX2_joined_118 : decode cX2_joined 118 = .ok (.iload_n 2, 1) := by decide +kernel
theorem dX2_joined_119 : decode cX2_joined 119 = .ok (.i2l, 1) := by decide +kernel
theorem dX2_joined_120 : decode cX2_joined 120 = .ok (.ladd, 1) := by decide +kernel
theorem dX2_joined_121 : decode cX2_joined 121 = .ok (.lstore_n 3, 1) := by decide +kernel
theorem dX2_joined_122 : decode cX2_joined 122 = .ok (.goto 78, 3) := by decide +kernel
theorem dX2_joined_125 : decode cX2_joined 125 = .ok (.iload_n 1, 1) := by decide +kernel
theorem dX2_joined_126 : decode cX2_joined 126 = .ok (.i2l, 1) := by decide +kernel
theorem dX2_joined_127 : decode cX2_joined 127 = .ok (.iload_n 2, 1) := by decide +kernel
theorem dX2_joined_128 : decode cX2_joined 128 = .ok (.i2l, 1) := by decide +kernel
theorem dX2_joined_129 : decode cX2_joined 129 = .ok (.lsub, 1) := by decide +kernel
theorem dX2_joined_130 : decode cX2_joined 130 = .ok (.lstore_n 3, 1) := by decide +kernel
theorem dX2_joined_131 : decode cX2_joined 131 = .ok (.goto 69, 3) := by decide +kernel
theorem dX2_joined_134 : decode cX2_joined 134 = .ok (.iload_n 1, 1) := by decide +kernel
theorem dX2_joined_135 : decode cX2_joined 135 = .ok (.i2l, 1) := by decide +kernel
theorem dX2_joined_136 : decode cX2_joined 136 = .ok (.iload_n 2, 1) := by decide +kernel
theorem dX2_joined_137 : decode cX2_joined 137 = .ok (.i2l, 1) := by decide +kernel
theorem dX2_joined_138 : decode cX2_joined 138 = .ok (.lmul, 1) := by decide +kernel
theorem dX2_joined_139 : decode cX2_joined 139 = .ok (.lstore_n 3, 1) := by decide +kernel
theorem dX2_joined_140 : decode cX2_joined 140 = .ok (.goto 60, 3) := by decide +kernel
theorem dX2_joined_143 : decode cX2_joined 143 = .ok (.iload_n 2, 1) := by decide +kernel
theorem dX2_joined_144 : decode cX2_joined 144 = .ok (.ifCond .ne 7, 3) := by decide +kernel
theorem dX2_joined_147 : decode cX2_joined 147 = .ok (.lconst 0, 1) := by decide +kernel
theorem dX2_joined_148 : decode cX2_joined 148 = .ok (.goto 7, 3) := by decide +kernel
theorem dX2_joined_151 : decode cX2_joined 151 = .ok (.iload_n 1, 1) := by decide +kernel
theorem dX2_joined_152 : decode cX2_joined 152 = .ok (.iload_n 2, 1) := by decide +kernel
theorem dX2_joined_153 : decode cX2_joined 153 = .ok (.idiv, 1) := by decide +kernel
theorem dX2_joined_154 : decode cX2_joined 154 = .ok (.i2l, 1) := by decide +kernel
theorem dX2_joined_155 : decode cX2_joined 155 = .ok (.lstore_n 3, 1) := by decide +kernel
theorem dX2_joined_156 : decode cX2_joined 156 = .ok (.goto 44, 3) := by decide +kernel
theorem dX2_joined_159 : decode cX2_joined 159 = .ok (.iload_n 1, 1) := by decide +kernel
theorem dX2_joined_160 : decode cX2_joined 160 = .ok (.iload_n 2, 1) := by decide +kernel
theorem dX2_joined_161 : decode cX2_joined 161 = .ok (.if_icmp .ne 7, 3) := by decide +kernel
theorem dX2_joined_164 : decode cX2_joined 164 = .ok (.iconst 1, 1) := by decide +kernel
theorem dX2_joined_165 : decode cX2_joined 165 = .ok (.goto 4, 3) := by decide +kernel
theorem dX2_joined_168 : decode cX2_joined 168 = .ok (.iconst 0, 1) := by decide +kernel
theorem dX2_joined_169 : decode cX2_joined 169 = .ok (.ireturn, 1) := by decide +kernel
theorem dX2_joined_170 : decode cX2_joined 170 = .ok (.iload_n 1, 1) := by decide +kernel
theorem dX2_joined_171 : decode cX2_joined 171 = .ok (.iload_n 2, 1) := by decide +kernel
theorem dX2_joined_172 : decode cX2_joined 172 = .ok (.if_icmp .ge 7, 3) := by decide +kernel
theorem dX2_joined_175 : decode cX2_joined 175 = .ok (.iconst 1, 1) := by decide +kernel
theorem dX2_joined_176 : decode cX2_joined 176 = .ok (.goto 4, 3) := by decide +kernel
theorem dX2_joined_179 : decode cX2_joined 179 = .ok (.iconst 0, 1) := by decide +kernel
theorem dX2_joined_180 : decode cX2_joined 180 = .ok (.ireturn, 1) := by decide +kernel
theorem dX2_joined_181 : decode cX2_joined 181 = .ok (.iload_n 1, 1) := by decide +kernel
theorem dX2_joined_182 : decode cX2_joined 182 = .ok (.iload_n 2, 1) := by decide +kernel
theorem dX2_joined_183 : decode cX2_joined 183 = .ok (.if_icmp .le 7, 3) := by decide +kernel
theorem dX2_joined_186 : decode cX2_joined 186 = .ok (.iconst 1, 1) := by decide +kernel
theorem dX2_joined_187 : decode cX2_joined 187 = .ok (.goto 4, 3) := by decide +kernel
theorem dX2_joined_190 : decode cX2_joined 190 = .ok (.iconst 0, 1) := by decide +kernel
theorem dX2_joined_191 : decode cX2_joined 191 = .ok (.ireturn, 1) := by decide +kernel
theorem dX2_joined_192 : decode cX2_joined 192 = .ok (.iload_n 1, 1) := by decide +kernel
theorem dX2_joined_193 : decode cX2_joined 193 = .ok (.iload_n 2, 1) := by decide +kernel
theorem dX2_joined_194 : decode cX2_joined 194 = .ok (.iand, 1) := by decide +kernel
theorem dX2_joined_195 : decode cX2_joined 195 = .ok (.ireturn, 1) := by decide +kernel
theorem dX2_joined_196 : decode cX2_joined 196 = .ok (.iload_n 1, 1) := by decide +kernel
theorem dX2_joined_197 : decode cX2_joined 197 = .ok (.iload_n 2, 1) := by decide +kernel
theorem dX2_joined_198 : decode cX2_joined 198 = .ok (.ior, 1) := by decide +kernel
theorem dX2_joined_199 : decode cX2_joined 199 = .ok (.ireturn, 1) := by decide +kernel
theorem dX2_joined_200 : decode cX2_joined 200 = .ok (.lload_n 3, 1) := by decide +kernel
theorem dX2_joined_201 : decode cX2_joined 201 = .ok (.ldc2_w 26, 3) := by decide +kernel
theorem dX2_joined_204 : decode cX2_joined 204 = .ok (.lcmp, 1) := by decide +kernel
theorem dX2_joined_205 : decode cX2_joined 205 = .ok (.ifCond .le 8, 3) := by decide +kernel
theorem dX2_joined_208 : decode cX2_joined 208 = .ok (.ldc 28, 2) := by decide +kernel
theorem dX2_joined_210 : decode cX2_joined 210 = .ok (.goto 18, 3) := by decide +kernel
theorem dX2_joined_213 : decode cX2_joined 213 = .ok (.lload_n 3, 1) := by decide +kernel
theorem dX2_joined_214 : decode cX2_joined 214 = .ok (.ldc2_w 29, 3) := by decide +kernel
theorem dX2_joined_217 : decode cX2_joined 217 = .ok (.lcmp, 1) := by decide +kernel
theorem dX2_joined_218 : decode cX2_joined 218 = .ok (.ifCond .ge 8, 3) := by decide +kernel
theorem dX2_joined_221 : decode cX2_joined 221 = .ok (.ldc 31, 2) := by decide +kernel
theorem dX2_joined_223 : decode cX2_joined 223 = .ok (.goto 5, 3) := by decide +kernel
theorem dX2_joined_226 : decode cX2_joined 226 = .ok (.lload_n 3, 1) := by decide +kernel
theorem dX2_joined_227 : decode cX2_joined 227 = .ok (.l2i, 1) := by decide +kernel
theorem dX2_joined_228 : decode cX2_joined 228 = .ok (.ireturn, 1) := by decide +kernel
theorem dX3_init_0 : decode cX3_init 0 = .ok (.aload_n 0, 1) := by decide +kernel
theorem dX3_init_1 : decode cX3_init 1 = .ok (.invokespecial 3, 3) := by decide +kernel
theorem dX3_init_4 : decode cX3_init 4 = .ok (.aload_n 0, 1) := by decide +kernel
theorem dX3_init_5 : decode cX3_init 5 = .ok (.bipush 20, 2) := by decide +kernel
theorem dX3_init_7 : decode cX3_init 7 = .ok (.newarray .int, 2) := by decide +kernel
theorem dX3_init_9 : decode cX3_init 9 = .ok (.putfield 9, 3) := by decide +kernel
theorem dX3_init_12 : decode cX3_init 12 = .ok (.return_, 1) := by decide +kernel
theorem dX3_clear_0 : decode cX3_clear 0 = .ok (.aload_n 0, 1) := by decide +kernel
theorem dX3_clear_1 : decode cX3_clear 1 = .ok (.iconst 0, 1) := by decide +kernel
theorem dX3_clear_2 : decode cX3_clear 2 = .ok (.putfield 15, 3) := by decide +kernel
theorem dX3_clear_5 : decode cX3_clear 5 = .ok (.aload_n 0, 1) := by decide +kernel
theorem dX3_clear_6 : decode cX3_clear 6 = .ok (.iconst 0, 1) := by decide +kernel
theorem dX3_clear_7 : decode cX3_clear 7 = .ok (.putfield 19, 3) := by decide +kernel
theorem dX3_clear_10 : decode cX3_clear 10 = .ok (.return_, 1) := by decide +kernel
theorem dX3_adds_0 : decode cX3_adds 0 = .ok (.aload_n 0, 1) := by decide +kernel
theorem dX3_adds_1 : decode cX3_adds 1 = .ok (.getfield 15, 3) := by decide +kernel
theorem dX3_adds_4 : decode cX3_adds 4 = .ok (.bipush 20, 2) := by decide +kernel
theorem dX3_adds_6 : decode cX3_adds 6 = .ok (.if_icmp .ge 10, 3) := by decide +kernel
theorem dX3_adds_9 : decode cX3_adds 9 = .ok (.aload_n 0, 1) := by decide +kernel
theorem dX3_adds_10 : decode cX3_adds 10 = .ok (.getfield 19, 3) := by decide +kernel
theorem dX3_adds_13 : decode cX3_adds 13 = .ok (.ifCond .eq 5, 3) := by decide +kernel
theorem dX3_adds_16 : decode cX3_adds 16 = .ok (.iconst 0, 1) := by decide +kernel
theorem dX3_adds_17 : decode cX3_adds 17 = .ok (.ireturn, 1) := by decide +kernel
theorem dX3_adds_18 : decode cX3_adds 18 = .ok (.aload_n 0, 1) := by decide +kernel
theorem dX3_adds_19 : decode cX3_adds 19 = .ok (.getfield 9, 3) := by decide +kernel
theorem dX3_adds_22 : decode cX3_adds 22 = .ok (.aload_n 0, 1) := by decide +kernel
theorem dX3_adds_23 : decode cX3_adds 23 = .ok (.getfield 15, 3) := by decide +kernel
theorem dX3_adds_26 : decode cX3_adds 26 = .ok (.iload_n 1, 1) := by decide +kernel
theorem dX3_adds_27 : decode cX3_adds 27 = .ok (.iastore, 1) := by decide +kernel
theorem dX3_adds_28 : decode cX3_adds 28 = .ok (.aload_n 0, 1) := by decide +kernel
theorem dX3_adds_29 : decode cX3_adds 29 = .ok (.dup, 1) := by decide +kernel
theorem dX3_adds_30 : decode cX3_adds 30 = .ok (.getfield 15, 3) := by decide +kernel
theorem dX3_adds_33 : decode cX3_adds 33 = .ok (.iconst 1, 1) := by decide +kernel
theorem dX3_adds_34 : decode cX3_adds 34 = .ok (.iadd, 1) := by decide +kernel
theorem dX3_adds_35 : decode cX3_adds 35 = .ok (.putfield 15, 3) := by decide +kernel
theorem dX3_adds_38 : decode cX3_adds 38 = .ok (.aload_n 0, 1) := by decide +kernel
theorem dX3_adds_39 : decode cX3_adds 39 = .ok (.iload_n 2, 1) := by decide +kernel
theorem dX3_adds_40 : decode cX3_adds 40 = .ok (.putfield 19, 3) := by decide +kernel
theorem dX3_adds_43 : decode cX3_adds 43 = .ok (.iconst 1, 1) := by decide +kernel
theorem dX3_adds_44 : decode cX3_adds 44 = .ok (.ireturn, 1) := by decide +kernel
theorem dX3_holdNow_0 : decode cX3_holdNow 0 = .ok (.iload_n 1, 1) := by decide +kernel
theorem dX3_holdNow_1 : decode cX3_holdNow 1 = .ok (.istore_n 2, 1) := by decide +kernel
theorem dX3_holdNow_2 : decode cX3_holdNow 2 = .ok (.iconst 0, 1) := by decide +kernel
theorem dX3_holdNow_3 : decode cX3_holdNow 3 = .ok (.istore_n 3, 1) := by decide +kernel
theorem dX3_holdNow_4 : decode cX3_holdNow 4 = .ok (.iload_n 3, 1) := by decide +kernel
theorem dX3_holdNow_5 : decode cX3_holdNow 5 = .ok (.aload_n 0, 1) := by decide +kernel
theorem dX3_holdNow_6 : decode cX3_holdNow 6 = .ok (.getfield 15, 3) := by decide +kernel
theorem dX3_holdNow_9 : decode cX3_holdNow 9 = .ok (.if_icmp .ge 76, 3) := by decide +kernel
theorem dX3_holdNow_12 : decode cX3_holdNow 12 = .ok (.aload_n 0, 1) := by decide +kernel
theorem dX3_holdNow_13 : decode cX3_holdNow 13 = .ok (.getfield 19, 3) := by decide +kernel
theorem dX3_holdNow_16 : decode cX3_holdNow 16 = .ok (.ifCond .eq 17, 3) := by decide +kernel
theorem dX3_holdNow_19 : decode cX3_holdNow 19 = .ok (.iload_n 3, 1) := by decide +kernel
theorem dX3_holdNow_20 : decode cX3_holdNow 20 = .ok (.aload_n 0, 1) := by decide +kernel
theorem dX3_holdNow_21 : decode cX3_holdNow 21 = .ok (.getfield 15, 3) := by decide +kernel
theorem dX3_holdNow_24 : decode cX3_holdNow 24 = .ok (.iconst 1, 1) := by decide +kernel
theorem dX3_holdNow_25 : decode cX3_holdNow 25 = .ok (.isub, 1) := by decide +kernel
theorem dX3_holdNow_26 : decode cX3_holdNow 26 = .ok (.if_icmp .ne 7, 3) := by decide +kernel
theorem dX3_holdNow_29 : decode cX3_holdNow 29 = .ok (.iconst 1, 1) := by decide +kernel
theorem dX3_holdNow_30 : decode cX3_holdNow 30 = .ok (.goto 4, 3) := by decide +kernel
theorem dX3_holdNow_33 : decode cX3_holdNow 33 = .ok (.iconst 0, 1) := by decide +kernel
theorem dX3_holdNow_34 : decode cX3_holdNow 34 = .ok (.istore 4, 2) := by decide +kernel
theorem dX3_holdNow_36 : decode cX3_holdNow 36 = .ok (.aload_n 0, 1) := by decide +kernel
theorem dX3_holdNow_37 : decode cX3_holdNow 37 = .ok (.getfield 9, 3) := by decide +kernel
theorem dX3_holdNow_40 : decode cX3_holdNow 40 = .ok (.iload_n 3, 1) := by decide +kernel
theorem dX3_holdNow_41 : decode cX3_holdNow 41 = .ok (.iaload, 1) := by decide +kernel
theorem dX3_holdNow_42 : decode cX3_holdNow 42 = .ok (.iload_n 2, 1) := by decide +kernel
theorem dX3_holdNow_43 : decode cX3_holdNow 43 = .ok (.if_icmp .lt 7, 3) := by decide +kernel
theorem dX3_holdNow_46 : decode cX3_holdNow 46 = .ok (.iconst 1, 1) := by decide +kernel
theorem dX3_holdNow_47 : decode cX3_holdNow 47 = .ok (.goto 4, 3) := by decide +kernel
theorem dX3_holdNow_50 : decode cX3_holdNow 50 = .ok (.iconst 0, 1) := by decide +kernel
theorem dX3_holdNow_51 : decode cX3_holdNow 51 = .ok (.iload 4, 2) := by decide +kernel
theorem dX3_holdNow_53 : decode cX3_holdNow 53 = .ok (.if_icmp .eq 5, 3) := by decide +kernel
theorem dX3_holdNow_56 : decode cX3_holdNow 56 = .ok (.iconst (-1), 1) := by decide +kernel
theorem dX3_holdNow_57 : decode cX3_holdNow 57 = .ok (.ireturn, 1) := by decide +kernel
theorem dX3_holdNow_58 : decode cX3_holdNow 58 = .ok (.iload 4, 2) := by decide +kernel
theorem dX3_holdNow_60 : decode cX3_holdNow 60 = .ok (.ifCond .ne 19, 3) := by decide +kernel
theorem dX3_holdNow_63 : decode cX3_holdNow 63 = .ok (.iconst 0, 1) := by decide +kernel
theorem dX3_holdNow_64 : decode cX3_holdNow 64 = .ok (.iload_n 2, 1) := by decide +kernel
theorem dX3_holdNow_65 : decode cX3_holdNow 65 = .ok (.aload_n 0, 1) := by decide +kernel
theorem dX3_holdNow_66 : decode cX3_holdNow 66 = .ok (.getfield 9, 3) := by decide +kernel
theorem dX3_holdNow_69 : decode cX3_holdNow 69 = .ok (.iload_n 3, 1) := by decide +kernel
theorem dX3_holdNow_70 : decode cX3_holdNow 70 = .ok (.iaload, 1) := by decide +kernel
theorem dX3_holdNow_71 : decode cX3_holdNow 71 = .ok (.bipush 10, 2) := by decide +kernel
theorem dX3_holdNow_73 : decode cX3_holdNow 73 = .ok (.idiv, 1) := by decide +kernel
theorem dX3_holdNow_74 : decode cX3_holdNow 74 = .ok (.isub, 1) := by decide +kernel
theorem dX3_holdNow_75 : decode cX3_holdNow 75 = .ok (.invokestatic 23, 3) := by decide +kernel
theorem dX3_holdNow_78 : decode cX3_holdNow 78 = .ok (.istore_n 2, 1) := by decide +kernel
theorem dX3_holdNow_79 : decode cX3_holdNow 79 = .ok (.iinc 3 1, 3) := by decide +kernel
theorem dX3_holdNow_82 : decode cX3_holdNow 82 = .ok (.goto (-78), 3) := by decide +kernel
theorem dX3_holdNow_85 : decode cX3_holdNow 85 = .ok (.iload_n 2, 1) := by decide +kernel
theorem dX3_holdNow_86 : decode cX3_holdNow 86 = .ok (.ireturn, 1) := by decide +kernel
theorem dX3_holdsOpenedBy_0 : decode cX3_holdsOpenedBy 0 = .ok (.iconst 0, 1) := by decide +kernel
theorem dX3_holdsOpenedBy_1 : decode cX3_holdsOpenedBy 1 = .ok (.istore_n 2, 1) := by decide +kernel
theorem dX3_holdsOpenedBy_2 : decode cX3_holdsOpenedBy 2 = .ok (.iconst 0, 1) := by decide +kernel
theorem dX3_holdsOpenedBy_3 : decode cX3_holdsOpenedBy 3 = .ok (.istore_n 3, 1) := by decide +kernel
theorem dX3_holdsOpenedBy_4 : decode cX3_holdsOpenedBy 4 = .ok (.iload_n 3, 1) := by decide +kernel
theorem dX3_holdsOpenedBy_5 : decode cX3_holdsOpenedBy 5 = .ok (.sipush 300, 3) := by decide +kernel
theorem dX3_holdsOpenedBy_8 : decode cX3_holdsOpenedBy 8 = .ok (.if_icmp .gt 31, 3) := by decide +kernel
theorem dX3_holdsOpenedBy_11 : decode cX3_holdsOpenedBy 11 = .ok (.aload_n 0, 1) := by decide +kernel
theorem dX3_holdsOpenedBy_12 : decode cX3_holdsOpenedBy 12 = .ok (.iload_n 3, 1) := by decide +kernel
theorem dX3_holdsOpenedBy_13 : decode cX3_holdsOpenedBy 13 = .ok (.invokevirtual 29, 3) := by decide +kernel
theorem dX3_holdsOpenedBy_16 : decode cX3_holdsOpenedBy 16 = .ok (.istore 4, 2) := by decide +kernel
theorem dX3_holdsOpenedBy_18 : decode cX3_holdsOpenedBy 18 = .ok (.iload 4, 2) := by decide +kernel
theorem dX3_holdsOpenedBy_20 : decode cX3_holdsOpenedBy 20 = .ok (.iconst (-1), 1) := by decide +kernel
theorem dX3_holdsOpenedBy_21 : decode cX3_holdsOpenedBy 21 = .ok (.if_icmp .eq 12, 3) := by decide +kernel
theorem dX3_holdsOpenedBy_24 : decode cX3_holdsOpenedBy 24 = .ok (.iload 4, 2) := by decide +kernel
theorem dX3_holdsOpenedBy_26 : decode cX3_holdsOpenedBy 26 = .ok (.iload_n 1, 1) := by decide +kernel
theorem dX3_holdsOpenedBy_27 : decode cX3_holdsOpenedBy 27 = .ok (.if_icmp .gt 6, 3) := by decide +kernel
theorem dX3_holdsOpenedBy_30 : decode cX3_holdsOpenedBy 30 = .ok (.iinc 2 1, 3) := by decide +kernel
theorem dX3_holdsOpenedBy_33 : decode cX3_holdsOpenedBy 33 = .ok (.iinc 3 1, 3) := by decide +kernel
theorem dX3_holdsOpenedBy_36 : decode cX3_holdsOpenedBy 36 = .ok (.goto (-32), 3) := by decide +kernel
theorem dX3_holdsOpenedBy_39 : decode cX3_holdsOpenedBy 39 = .ok (.iload_n 2, 1) := by decide +kernel
theorem dX3_holdsOpenedBy_40 : decode cX3_holdsOpenedBy 40 = .ok (.ireturn, 1) := by decide +kernel
theorem dX3_least_0 : decode cX3_least 0 = .ok (.iconst 0, 1) := by decide +kernel
theorem dX3_least_1 : decode cX3_least 1 = .ok (.istore_n 1, 1) := by decide +kernel
theorem dX3_least_2 : decode cX3_least 2 = .ok (.iload_n 1, 1) := by decide +kernel
theorem dX3_least_3 : decode cX3_least 3 = .ok (.sipush 300, 3) := by decide +kernel
theorem dX3_least_6 : decode cX3_least 6 = .ok (.if_icmp .gt 20, 3) := by decide +kernel
theorem dX3_least_9 : decode cX3_least 9 = .ok (.aload_n 0, 1) := by decide +kernel
theorem dX3_least_10 : decode cX3_least 10 = .ok (.iload_n 1, 1) := by decide +kernel
theorem dX3_least_11 : decode cX3_least 11 = .ok (.invokevirtual 29, 3) := by decide +kernel
theorem dX3_least_14 : decode cX3_least 14 = .ok (.iconst (-1), 1) := by decide +kernel
theorem dX3_least_15 : decode cX3_least 15 = .ok (.if_icmp .eq 5, 3) := by decide +kernel
theorem dX3_least_18 : decode cX3_least 18 = .ok (.iload_n 1, 1) := by decide +kernel
theorem dX3_least_19 : decode cX3_least 19 = .ok (.ireturn, 1) := by decide +kernel
theorem dX3_least_20 : decode cX3_least 20 = .ok (.iinc 1 1, 3) := by decide +kernel
theorem dX3_least_23 : decode cX3_least 23 = .ok (.goto (-21), 3) := by decide +kernel
theorem dX3_least_26 : decode cX3_least 26 = .ok (.iconst (-1), 1) := by decide +kernel
theorem dX3_least_27 : decode cX3_least 27 = .ok (.ireturn, 1) := by decide +kernel
theorem dX3_greatest_0 : decode cX3_greatest 0 = .ok (.sipush 300, 3) := by decide +kernel
theorem dX3_greatest_3 : decode cX3_greatest 3 = .ok (.istore_n 1, 1) := by decide +kernel
theorem dX3_greatest_4 : decode cX3_greatest 4 = .ok (.iload_n 1, 1) := by decide +kernel
theorem dX3_greatest_5 : decode cX3_greatest 5 = .ok (.ifCond .lt 20, 3) := by decide +kernel
theorem dX3_greatest_8 : decode cX3_greatest 8 = .ok (.aload_n 0, 1) := by decide +kernel
theorem dX3_greatest_9 : decode cX3_greatest 9 = .ok (.iload_n 1, 1) := by decide +kernel
theorem dX3_greatest_10 : decode cX3_greatest 10 = .ok (.invokevirtual 29, 3) := by decide +kernel
theorem dX3_greatest_13 : decode cX3_greatest 13 = .ok (.iconst (-1), 1) := by decide +kernel
theorem dX3_greatest_14 : decode cX3_greatest 14 = .ok (.if_icmp .eq 5, 3) := by decide +kernel
theorem dX3_greatest_17 : decode cX3_greatest 17 = .ok (.iload_n 1, 1) := by decide +kernel
theorem dX3_greatest_18 : decode cX3_greatest 18 = .ok (.ireturn, 1) := by decide +kernel
theorem dX3_greatest_19 : decode cX3_greatest 19 = .ok (.iinc 1 (-1), 3) := by decide +kernel
theorem dX3_greatest_22 : decode cX3_greatest 22 = .ok (.goto (-18), 3) := by decide +kernel
theorem dX3_greatest_25 : decode cX3_greatest 25 = .ok (.iconst (-1), 1) := by decide +kernel
theorem dX3_greatest_26 : decode cX3_greatest 26 = .ok (.ireturn, 1) := by decide +kernel
theorem dX4_init_0 : decode cX4_init 0 = .ok (.aload_n 0, 1) := by decide +kernel
theorem dX4_init_1 : decode cX4_init 1 = .ok (.invokespecial 3, 3) := by decide +kernel
theorem dX4_init_4 : decode cX4_init 4 = .ok (.aload_n 0, 1) := by decide +kernel
theorem dX4_init_5 : decode cX4_init 5 = .ok (.new 9, 3) := by decide +kernel
theorem dX4_init_8 : decode cX4_init 8 = .ok (.dup, 1) := by decide +kernel
theorem dX4_init_9 : decode cX4_init 9 = .ok (.invokespecial 11, 3) := by decide +kernel
theorem dX4_init_12 : decode cX4_init 12 = .ok (.putfield 12, 3) := by decide +kernel
theorem dX4_init_15 : decode cX4_init 15 = .ok (.aload_n 0, 1) := by decide +kernel
theorem dX4_init_16 : decode cX4_init 16 = .ok (.aload_n 1, 1) := by decide +kernel
theorem dX4_init_17 : decode cX4_init 17 = .ok (.putfield 18, 3) := by decide +kernel
theorem dX4_init_20 : decode cX4_init 20 = .ok (.return_, 1) := by decide +kernel
theorem dX4_firstWrong_0 : decode cX4_firstWrong 0 = .ok (.aload_n 0, 1) := by decide +kernel
theorem dX4_firstWrong_1 : decode cX4_firstWrong 1 = .ok (.getfield 18, 3) := by decide +kernel
theorem dX4_firstWrong_4 : decode cX4_firstWrong 4 = .ok (.invokevirtual 22, 3) := by decide +kernel
theorem dX4_firstWrong_7 : decode cX4_firstWrong 7 = .ok (.aload_n 0, 1) := by decide +kernel
theorem dX4_firstWrong_8 : decode cX4_firstWrong 8 = .ok (.getfield 12, 3) := by decide +kernel
theorem dX4_firstWrong_11 : decode cX4_firstWrong 11 = .ok (.invokevirtual 27, 3) := by decide +kernel
theorem dX4_firstWrong_14 : decode cX4_firstWrong 14 = .ok (.iconst 1, 1) := by decide +kernel
theorem dX4_firstWrong_15 : decode cX4_firstWrong 15 = .ok (.istore_n 1, 1) := by decide +kernel
theorem dX4_firstWrong_16 : decode cX4_firstWrong 16 = .ok (.iconst 0, 1) := by decide +kernel
theorem dX4_firstWrong_17 : decode cX4_firstWrong 17 = .ok (.istore_n 2, 1) := by decide +kernel
theorem dX4_firstWrong_18 : decode cX4_firstWrong 18 = .ok (.iload_n 1, 1) := by decide +kernel
theorem dX4_firstWrong_19 : decode cX4_firstWrong 19 = .ok (.ifCond .eq 30, 3) := by decide +kernel
theorem dX4_firstWrong_22 : decode cX4_firstWrong 22 = .ok (.iload_n 2, 1) := by decide +kernel
theorem dX4_firstWrong_23 : decode cX4_firstWrong 23 = .ok (.sipush 200, 3) := by decide +kernel
theorem dX4_firstWrong_26 : decode cX4_firstWrong 26 = .ok (.if_icmp .ge 23, 3) := by decide +kernel
theorem dX4_firstWrong_29 : decode cX4_firstWrong 29 = .ok (.aload_n 0, 1) := by decide +kernel
theorem dX4_firstWrong_30 : decode cX4_firstWrong 30 = .ok (.invokevirtual 30, 3) := by decide +kernel
theorem dX4_firstWrong_33 : decode cX4_firstWrong 33 = .ok (.aload_n 0, 1) := by decide +kernel
theorem dX4_firstWrong_34 : decode cX4_firstWrong 34 = .ok (.getfield 18, 3) := by decide +kernel
theorem dX4_firstWrong_37 : decode cX4_firstWrong 37 = .ok (.bipush 59, 2) := by decide +kernel
theorem dX4_firstWrong_39 : decode cX4_firstWrong 39 = .ok (.invokevirtual 33, 3) := by decide +kernel
theorem dX4_firstWrong_42 : decode cX4_firstWrong 42 = .ok (.istore_n 1, 1) := by decide +kernel
theorem dX4_firstWrong_43 : decode cX4_firstWrong 43 = .ok (.iinc 2 1, 3) := by decide +kernel
theorem dX4_firstWrong_46 : decode cX4_firstWrong 46 = .ok (.goto (-28), 3) := by decide +kernel
theorem dX4_firstWrong_49 : decode cX4_firstWrong 49 = .ok (.aload_n 0, 1) := by decide +kernel
theorem dX4_firstWrong_50 : decode cX4_firstWrong 50 = .ok (.getfield 18, 3) := by decide +kernel
theorem dX4_firstWrong_53 : decode cX4_firstWrong 53 = .ok (.invokevirtual 37, 3) := by decide +kernel
theorem dX4_firstWrong_56 : decode cX4_firstWrong 56 = .ok (.aload_n 0, 1) := by decide +kernel
theorem dX4_firstWrong_57 : decode cX4_firstWrong 57 = .ok (.getfield 12, 3) := by decide +kernel
theorem dX4_firstWrong_60 : decode cX4_firstWrong 60 = .ok (.getfield 40, 3) := by decide +kernel
theorem dX4_firstWrong_63 : decode cX4_firstWrong 63 = .ok (.iconst 0, 1) := by decide +kernel
theorem dX4_firstWrong_64 : decode cX4_firstWrong 64 = .ok (.iaload, 1) := by decide +kernel
theorem dX4_firstWrong_65 : decode cX4_firstWrong 65 = .ok (.ifCond .eq 15, 3) := by decide +kernel
theorem dX4_firstWrong_68 : decode cX4_firstWrong 68 = .ok (.aload_n 0, 1) := by decide +kernel
theorem dX4_firstWrong_69 : decode cX4_firstWrong 69 = .ok (.getfield 12, 3) := by decide +kernel
theorem dX4_firstWrong_72 : decode cX4_firstWrong 72 = .ok (.getfield 40, 3) := by decide +kernel
theorem dX4_firstWrong_75 : decode cX4_firstWrong 75 = .ok (.iconst 1, 1) := by decide +kernel
theorem dX4_firstWrong_76 : decode cX4_firstWrong 76 = .ok (.iaload, 1) := by decide +kernel
theorem dX4_firstWrong_77 : decode cX4_firstWrong 77 = .ok (.ifCond .ne 10, 3) := by decide +kernel
theorem dX4_firstWrong_80 : decode cX4_firstWrong 80 = .ok (.aload_n 0, 1) := by decide +kernel
theorem dX4_firstWrong_81 : decode cX4_firstWrong 81 = .ok (.getfield 18, 3) := by decide +kernel
theorem dX4_firstWrong_84 : decode cX4_firstWrong 84 = .ok (.invokevirtual 44, 3) := by decide +kernel
theorem dX4_firstWrong_87 : decode cX4_firstWrong 87 = .ok (.aload_n 0, 1) := by decide +kernel
theorem dX4_firstWrong_88 : decode cX4_firstWrong 88 = .ok (.getfield 18, 3) := by decide +kernel
theorem dX4_firstWrong_91 : decode cX4_firstWrong 91 = .ok (.getfield 47, 3) := by decide +kernel
theorem dX4_firstWrong_94 : decode cX4_firstWrong 94 = .ok (.ireturn, 1) := by decide +kernel
theorem dX4_readClause_0 : decode cX4_readClause 0 = .ok (.ldc 51, 2) := by decide +kernel
theorem dX4_readClause_2 : decode cX4_readClause 2 = .ok (.aload_n 0, 1) := by decide +kernel
theorem dX4_readClause_3 : decode cX4_readClause 3 = .ok (.getfield 18, 3) := by decide +kernel
theorem dX4_readClause_6 : decode cX4_readClause 6 = .ok (.invokevirtual 53, 3) := by decide +kernel
theorem dX4_readClause_9 : decode cX4_readClause 9 = .ok (.i2c, 1) := by decide +kernel
theorem dX4_readClause_10 : decode cX4_readClause 10 = .ok (.invokevirtual 57, 3) := by decide +kernel
theorem dX4_readClause_13 : decode cX4_readClause 13 = .ok (.istore_n 1, 1) := by decide +kernel
theorem dX4_readClause_14 : decode cX4_readClause 14 = .ok (.iload_n 1, 1) := by decide +kernel
theorem dX4_readClause_15 : decode cX4_readClause 15 = .ok (.ifCond .lt 20, 3) := by decide +kernel
theorem dX4_readClause_18 : decode cX4_readClause 18 = .ok (.aload_n 0, 1) := by decide +kernel
theorem dX4_readClause_19 : decode cX4_readClause 19 = .ok (.getfield 12, 3) := by decide +kernel
theorem dX4_readClause_22 : decode cX4_readClause 22 = .ok (.getfield 40, 3) := by decide +kernel
theorem dX4_readClause_25 : decode cX4_readClause 25 = .ok (.iload_n 1, 1) := by decide +kernel
theorem dX4_readClause_26 : decode cX4_readClause 26 = .ok (.iaload, 1) := by decide +kernel
theorem dX4_readClause_27 : decode cX4_readClause 27 = .ok (.getstatic 63, 3) := by decide +kernel
theorem dX4_readClause_30 : decode cX4_readClause 30 = .ok (.iload_n 1, 1) := by decide +kernel
theorem dX4_readClause_31 : decode cX4_readClause 31 = .ok (.iaload, 1) := by decide +kernel
theorem dX4_readClause_32 : decode cX4_readClause 32 = .ok (.if_icmp .lt 11, 3) := by decide +kernel
theorem dX4_readClause_35 : decode cX4_readClause 35 = .ok (.aload_n 0, 1) := by decide +kernel
theorem dX4_readClause_36 : decode cX4_readClause 36 = .ok (.getfield 18, 3) := by decide +kernel
theorem dX4_readClause_39 : decode cX4_readClause 39 = .ok (.invokevirtual 44, 3) := by decide +kernel
theorem dX4_readClause_42 : decode cX4_readClause 42 = .ok (.return_, 1) := by decide +kernel
theorem dX4_readClause_43 : decode cX4_readClause 43 = .ok (.aload_n 0, 1) := by decide +kernel
theorem dX4_readClause_44 : decode cX4_readClause 44 = .ok (.getfield 18, 3) := by decide +kernel
theorem dX4_readClause_47 : decode cX4_readClause 47 = .ok (.dup, 1) := by decide +kernel
theorem dX4_readClause_48 : decode cX4_readClause 48 = .ok (.getfield 66, 3) := by decide +kernel
theorem dX4_readClause_51 : decode cX4_readClause 51 = .ok (.iconst 1, 1) := by decide +kernel
theorem dX4_readClause_52 : decode cX4_readClause 52 = .ok (.iadd, 1) := by decide +kernel
theorem dX4_readClause_53 : decode cX4_readClause 53 = .ok (.putfield 66, 3) := by decide +kernel
theorem dX4_readClause_56 : decode cX4_readClause 56 = .ok (.aload_n 0, 1) := by decide +kernel
theorem dX4_readClause_57 : decode cX4_readClause 57 = .ok (.getfield 12, 3) := by decide +kernel
theorem dX4_readClause_60 : decode cX4_readClause 60 = .ok (.getfield 40, 3) := by decide +kernel
theorem dX4_readClause_63 : decode cX4_readClause 63 = .ok (.iload_n 1, 1) := by decide +kernel
theorem dX4_readClause_64 : decode cX4_readClause 64 = .ok (.iaload, 1) := by decide +kernel
theorem dX4_readClause_65 : decode cX4_readClause 65 = .ok (.istore_n 2, 1) := by decide +kernel
theorem dX4_readClause_66 : decode cX4_readClause 66 = .ok (.aload_n 0, 1) := by decide +kernel
theorem dX4_readClause_67 : decode cX4_readClause 67 = .ok (.getfield 12, 3) := by decide +kernel
theorem dX4_readClause_70 : decode cX4_readClause 70 = .ok (.getfield 40, 3) := by decide +kernel
theorem dX4_readClause_73 : decode cX4_readClause 73 = .ok (.iload_n 1, 1) := by decide +kernel
theorem dX4_readClause_74 : decode cX4_readClause 74 = .ok (.dup2, 1) := by decide +kernel
theorem dX4_readClause_75 : decode cX4_readClause 75 = .ok (.iaload, 1) := by decide +kernel
theorem dX4_readClause_76 : decode cX4_readClause 76 = .ok (.iconst 1, 1) := by decide +kernel
theorem dX4_readClause_77 : decode cX4_readClause 77 = .ok (.iadd, 1) := by decide +kernel
theorem dX4_readClause_78 : decode cX4_readClause 78 = .ok (.iastore, 1) := by decide +kernel
theorem dX4_readClause_79 : decode cX4_readClause 79 = .ok (.iconst 0, 1) := by decide +kernel
theorem dX4_readClause_80 : decode cX4_readClause 80 = .ok (.istore_n 3, 1) := by decide +kernel
theorem dX4_readClause_81 : decode cX4_readClause 81 = .ok (.iload_n 3, 1) := by decide +kernel
theorem dX4_readClause_82 : decode cX4_readClause 82 = .ok (.getstatic 69, 3) := by decide +kernel
theorem dX4_readClause_85 : decode cX4_readClause 85 = .ok (.iload_n 1, 1) := by decide +kernel
theorem dX4_readClause_86 : decode cX4_readClause 86 = .ok (.iaload, 1) := by decide +kernel
theorem dX4_readClause_87 : decode cX4_readClause 87 = .ok (.if_icmp .ge 34, 3) := by decide +kernel
theorem dX4_readClause_90 : decode cX4_readClause 90 = .ok (.aload_n 0, 1) := by decide +kernel
theorem dX4_readClause_91 : decode cX4_readClause 91 = .ok (.getfield 12, 3) := by decide +kernel
theorem dX4_readClause_94 : decode cX4_readClause 94 = .ok (.getfield 72, 3) := by decide +kernel
theorem dX4_readClause_97 : decode cX4_readClause 97 = .ok (.iload_n 1, 1) := by decide +kernel
theorem dX4_readClause_98 : decode cX4_readClause 98 = .ok (.iload_n 2, 1) := by decide +kernel
theorem dX4_readClause_99 : decode cX4_readClause 99 = .ok (.iload_n 3, 1) := by decide +kernel
theorem dX4_readClause_100 : decode cX4_readClause 100 = .ok (.invokestatic 75, 3) := by decide +kernel
theorem dX4_readClause_103 : decode cX4_readClause 103 = .ok (.getstatic 79, 3) := by decide +kernel
theorem dX4_readClause_106 : decode cX4_readClause 106 = .ok (.getstatic 82, 3) := by decide +kernel
theorem dX4_readClause_109 : decode cX4_readClause 109 = .ok (.iload_n 1, 1) := by decide +kernel
theorem dX4_readClause_110 : decode cX4_readClause 110 = .ok (.iaload, 1) := by decide +kernel
theorem dX4_readClause_111 : decode cX4_readClause 111 = .ok (.iload_n 3, 1) := by decide +kernel
theorem dX4_readClause_112 : decode cX4_readClause 112 = .ok (.iadd, 1) := by decide +kernel
theorem dX4_readClause_113 : decode cX4_readClause 113 = .ok (.iaload, 1) := by decide +kernel
theorem dX4_readClause_114 : decode cX4_readClause 114 = .ok (.iastore, 1) := by decide +kernel
theorem dX4_readClause_115 : decode cX4_readClause 115 = .ok (.iinc 3 1, 3) := by decide +kernel
theorem dX4_readClause_118 : decode cX4_readClause 118 = .ok (.goto (-37), 3) := by decide +kernel
theorem dX4_readClause_121 : decode cX4_readClause 121 = .ok (.aload_n 0, 1) := by decide +kernel
theorem dX4_readClause_122 : decode cX4_readClause 122 = .ok (.iload_n 1, 1) := by decide +kernel
theorem dX4_readClause_123 : decode cX4_readClause 123 = .ok (.iload_n 2, 1) := by decide +kernel
theorem dX4_readClause_124 : decode cX4_readClause 124 = .ok (.invokevirtual 85, 3) := by decide +kernel
theorem dX4_readClause_127 : decode cX4_readClause 127 = .ok (.return_, 1) := by decide +kernel
theorem dX4_readItems_0 : decode cX4_readItems 0 = .ok (.iload_n 1, 1) := by decide +kernel
theorem dX4_readItems_1 : decode cX4_readItems 1 = .ok (.invokestatic 89, 3) := by decide +kernel
theorem dX4_readItems_4 : decode cX4_readItems 4 = .ok (.astore_n 3, 1) := by decide +kernel
theorem dX4_readItems_5 : decode cX4_readItems 5 = .ok (.iconst 0, 1) := by decide +kernel
theorem dX4_readItems_6 : decode cX4_readItems 6 = .ok (.istore 4, 2) := by decide +kernel
theorem dX4_readItems_8 : decode cX4_readItems 8 = .ok (.aload_n 3, 1) := by decide +kernel
theorem dX4_readItems_9 : decode cX4_readItems 9 = .ok (.aload_n 0, 1) := by decide +kernel
theorem dX4_readItems_10 : decode cX4_readItems 10 = .ok (.getfield 18, 3) := by decide +kernel
theorem dX4_readItems_13 : decode cX4_readItems 13 = .ok (.invokevirtual 53, 3) := by decide +kernel
theorem dX4_readItems_16 : decode cX4_readItems 16 = .ok (.i2c, 1) := by decide +kernel
theorem dX4_readItems_17 : decode cX4_readItems 17 = .ok (.invokevirtual 57, 3) := by decide +kernel
theorem dX4_readItems_20 : decode cX4_readItems 20 = .ok (.istore 5, 2) := by decide +kernel
theorem dX4_readItems_22 : decode cX4_readItems 22 = .ok (.iconst 0, 1) := by decide +kernel
theorem dX4_readItems_23 : decode cX4_readItems 23 = .ok (.istore 6, 2) := by decide +kernel
theorem dX4_readItems_25 : decode cX4_readItems 25 = .ok (.iload 6, 2) := by decide +kernel
theorem dX4_readItems_27 : decode cX4_readItems 27 = .ok (.sipush 200, 3) := by decide +kernel
theorem dX4_readItems_30 : decode cX4_readItems 30 = .ok (.if_icmp .ge 109, 3) := by decide +kernel
theorem dX4_readItems_33 : decode cX4_readItems 33 = .ok (.iload 5, 2) := by decide +kernel
theorem dX4_readItems_35 : decode cX4_readItems 35 = .ok (.ifCond .lt 104, 3) := by decide +kernel
theorem dX4_readItems_38 : decode cX4_readItems 38 = .ok (.iload 4, 2) := by decide +kernel
theorem dX4_readItems_40 : decode cX4_readItems 40 = .ok (.iload 5, 2) := by decide +kernel
theorem dX4_readItems_42 : decode cX4_readItems 42 = .ok (.ishr, 1) := by decide +kernel
theorem dX4_readItems_43 : decode cX4_readItems 43 = .ok (.iconst 1, 1) := by decide +kernel
theorem dX4_readItems_44 : decode cX4_readItems 44 = .ok (.iand, 1) := by decide +kernel
theorem dX4_readItems_45 : decode cX4_readItems 45 = .ok (.ifCond .ne 94, 3) := by decide +kernel
theorem dX4_readItems_48 : decode cX4_readItems 48 = .ok (.iload 4, 2) := by decide +kernel
theorem dX4_readItems_50 : decode cX4_readItems 50 = .ok (.iconst 1, 1) := by decide +kernel
theorem dX4_readItems_51 : decode cX4_readItems 51 = .ok (.iload 5, 2) := by decide +kernel
theorem dX4_readItems_53 : decode cX4_readItems 53 = .ok (.ishl, 1) := by decide +kernel
theorem dX4_readItems_54 : decode cX4_readItems 54 = .ok (.ior, 1) := by decide +kernel
theorem dX4_readItems_55 : decode cX4_readItems 55 = .ok (.istore 4, 2) := by decide +kernel
theorem dX4_readItems_57 : decode cX4_readItems 57 = .ok (.aload_n 0, 1) := by decide +kernel
theorem dX4_readItems_58 : decode cX4_readItems 58 = .ok (.getfield 18, 3) := by decide +kernel
theorem dX4_readItems_61 : decode cX4_readItems 61 = .ok (.dup, 1) := by decide +kernel
theorem dX4_readItems_62 : decode cX4_readItems 62 = .ok (.getfield 66, 3) := by decide +kernel
theorem dX4_readItems_65 : decode cX4_readItems 65 = .ok (.iconst 1, 1) := by decide +kernel
theorem dX4_readItems_66 : decode cX4_readItems 66 = .ok (.iadd, 1) := by decide +kernel
theorem dX4_readItems_67 : decode cX4_readItems 67 = .ok (.putfield 66, 3) := by decide +kernel
theorem dX4_readItems_70 : decode cX4_readItems 70 = .ok (.getstatic 82, 3) := by decide +kernel
theorem dX4_readItems_73 : decode cX4_readItems 73 = .ok (.iload_n 1, 1) := by decide +kernel
theorem dX4_readItems_74 : decode cX4_readItems 74 = .ok (.iaload, 1) := by decide +kernel
theorem dX4_readItems_75 : decode cX4_readItems 75 = .ok (.iload 5, 2) := by decide +kernel
theorem dX4_readItems_77 : decode cX4_readItems 77 = .ok (.iadd, 1) := by decide +kernel
theorem dX4_readItems_78 : decode cX4_readItems 78 = .ok (.istore 7, 2) := by decide +kernel
theorem dX4_readItems_80 : decode cX4_readItems 80 = .ok (.aload_n 0, 1) := by decide +kernel
theorem dX4_readItems_81 : decode cX4_readItems 81 = .ok (.getfield 18, 3) := by decide +kernel
theorem dX4_readItems_84 : decode cX4_readItems 84 = .ok (.iconst 2, 1) := by decide +kernel
theorem dX4_readItems_85 : decode cX4_readItems 85 = .ok (.getstatic 93, 3) := by decide +kernel
theorem dX4_readItems_88 : decode cX4_readItems 88 = .ok (.iload 7, 2) := by decide +kernel
theorem dX4_readItems_90 : decode cX4_readItems 90 = .ok (.iaload, 1) := by decide +kernel
theorem dX4_readItems_91 : decode cX4_readItems 91 = .ok (.getstatic 96, 3) := by decide +kernel
theorem dX4_readItems_94 : decode cX4_readItems 94 = .ok (.iload 7, 2) := by decide +kernel
theorem dX4_readItems_96 : decode cX4_readItems 96 = .ok (.iaload, 1) := by decide +kernel
theorem dX4_readItems_97 : decode cX4_readItems 97 = .ok (.invokevirtual 99, 3) := by decide +kernel
theorem dX4_readItems_100 : decode cX4_readItems 100 = .ok (.istore 8, 2) := by decide +kernel
theorem dX4_readItems_102 : decode cX4_readItems 102 = .ok (.aload_n 0, 1) := by decide +kernel
theorem dX4_readItems_103 : decode cX4_readItems 103 = .ok (.getfield 12, 3) := by decide +kernel
theorem dX4_readItems_106 : decode cX4_readItems 106 = .ok (.getfield 72, 3) := by decide +kernel
theorem dX4_readItems_109 : decode cX4_readItems 109 = .ok (.iload_n 1, 1) := by decide +kernel
theorem dX4_readItems_110 : decode cX4_readItems 110 = .ok (.iload_n 2, 1) := by decide +kernel
theorem dX4_readItems_111 : decode cX4_readItems 111 = .ok (.iload 5, 2) := by decide +kernel
theorem dX4_readItems_113 : decode cX4_readItems 113 = .ok (.invokestatic 75, 3) := by decide +kernel
theorem dX4_readItems_116 : decode cX4_readItems 116 = .ok (.iload 8, 2) := by decide +kernel
theorem dX4_readItems_118 : decode cX4_readItems 118 = .ok (.iastore, 1) := by decide +kernel
theorem dX4_readItems_119 : decode cX4_readItems 119 = .ok (.aload_n 3, 1) := by decide +kernel
theorem dX4_readItems_120 : decode cX4_readItems 120 = .ok (.aload_n 0, 1) := by decide +kernel
theorem dX4_readItems_121 : decode cX4_readItems 121 = .ok (.getfield 18, 3) := by decide +kernel
theorem dX4_readItems_124 : decode cX4_readItems 124 = .ok (.invokevirtual 53, 3) := by decide +kernel
theorem dX4_readItems_127 : decode cX4_readItems 127 = .ok (.i2c, 1) := by decide +kernel
theorem dX4_readItems_128 : decode cX4_readItems 128 = .ok (.invokevirtual 57, 3) := by decide +kernel
theorem dX4_readItems_131 : decode cX4_readItems 131 = .ok (.istore 5, 2) := by decide +kernel
theorem dX4_readItems_133 : decode cX4_readItems 133 = .ok (.iinc 6 1, 3) := by decide +kernel
theorem dX4_readItems_136 : decode cX4_readItems 136 = .ok (.goto (-111), 3) := by decide +kernel
theorem dX4_readItems_139 : decode cX4_readItems 139 = .ok (.return_, 1) := by decide +kernel
theorem dX4_lettersOf_0 : decode cX4_lettersOf 0 = .ok (.iload_n 0, 1) := by decide +kernel
theorem dX4_lettersOf_1 : decode cX4_lettersOf 1 = .ok (.ifCond .ne 6, 3) := by decide +kernel
theorem dX4_lettersOf_4 : decode cX4_lettersOf 4 = .ok (.ldc 102, 2) := by decide +kernel
theorem dX4_lettersOf_6 : decode cX4_lettersOf 6 = .ok (.areturn, 1) := by decide +kernel
theorem dX4_lettersOf_7 : decode cX4_lettersOf 7 = .ok (.iload_n 0, 1) := by decide +kernel
theorem dX4_lettersOf_8 : decode cX4_lettersOf 8 = .ok (.iconst 1, 1) := by decide +kernel
theorem dX4_lettersOf_9 : decode cX4_lettersOf 9 = .ok (.if_icmp .ne 8, 3) := by decide +kernel
theorem dX4_lettersOf_12 : decode cX4_lettersOf 12 = .ok (.ldc 104, 2) := by decide +kernel
theorem dX4_lettersOf_14 : decode cX4_lettersOf 14 = .ok (.goto 5, 3) := by decide +kernel
theorem dX4_lettersOf_17 : decode cX4_lettersOf 17 = .ok (.ldc 106, 2) := by decide +kernel
theorem dX4_lettersOf_19 : decode cX4_lettersOf 19 = .ok (.areturn, 1) := by decide +kernel
theorem dX5_init_0 : decode cX5_init 0 = .ok (.aload_n 0, 1) := by decide +kernel
theorem dX5_init_1 : decode cX5_init 1 = .ok (.invokespecial 3, 3) := by decide +kernel
theorem dX5_init_4 : decode cX5_init 4 = .ok (.aload_n 0, 1) := by decide +kernel
theorem dX5_init_5 : decode cX5_init 5 = .ok (.sipush 202, 3) := by decide +kernel
theorem dX5_init_8 : decode cX5_init 8 = .ok (.newarray .int, 2) := by decide +kernel
theorem dX5_init_10 : decode cX5_init 10 = .ok (.putfield 9, 3) := by decide +kernel
theorem dX5_init_13 : decode cX5_init 13 = .ok (.aload_n 0, 1) := by decide +kernel
theorem dX5_init_14 : decode cX5_init 14 = .ok (.aload_n 1, 1) := by decide +kernel
theorem dX5_init_15 : decode cX5_init 15 = .ok (.putfield 15, 3) := by decide +kernel
theorem dX5_init_18 : decode cX5_init 18 = .ok (.return_, 1) := by decide +kernel
theorem dX5_firstWrong_0 : decode cX5_firstWrong 0 = .ok (.aload_n 0, 1) := by decide +kernel
theorem dX5_firstWrong_1 : decode cX5_firstWrong 1 = .ok (.getfield 15, 3) := by decide +kernel
theorem dX5_firstWrong_4 : decode cX5_firstWrong 4 = .ok (.invokevirtual 19, 3) := by decide +kernel
theorem dX5_firstWrong_7 : decode cX5_firstWrong 7 = .ok (.aload_n 0, 1) := by decide +kernel
theorem dX5_firstWrong_8 : decode cX5_firstWrong 8 = .ok (.iconst 0, 1) := by decide +kernel
theorem dX5_firstWrong_9 : decode cX5_firstWrong 9 = .ok (.putfield 24, 3) := by decide +kernel
theorem dX5_firstWrong_12 : decode cX5_firstWrong 12 = .ok (.iconst 1, 1) := by decide +kernel
theorem dX5_firstWrong_13 : decode cX5_firstWrong 13 = .ok (.istore_n 1, 1) := by decide +kernel
theorem dX5_firstWrong_14 : decode cX5_firstWrong 14 = .ok (.iconst 0, 1) := by decide +kernel
theorem dX5_firstWrong_15 : decode cX5_firstWrong 15 = .ok (.istore_n 2, 1) := by decide +kernel
theorem dX5_firstWrong_16 : decode cX5_firstWrong 16 = .ok (.iload_n 1, 1) := by decide +kernel
theorem dX5_firstWrong_17 : decode cX5_firstWrong 17 = .ok (.ifCond .eq 30, 3) := by decide +kernel
theorem dX5_firstWrong_20 : decode cX5_firstWrong 20 = .ok (.iload_n 2, 1) := by decide +kernel
theorem dX5_firstWrong_21 : decode cX5_firstWrong 21 = .ok (.sipush 200, 3) := by decide +kernel
theorem dX5_firstWrong_24 : decode cX5_firstWrong 24 = .ok (.if_icmp .ge 23, 3) := by decide +kernel
theorem dX5_firstWrong_27 : decode cX5_firstWrong 27 = .ok (.aload_n 0, 1) := by decide +kernel
theorem dX5_firstWrong_28 : decode cX5_firstWrong 28 = .ok (.invokevirtual 28, 3) := by decide +kernel
theorem dX5_firstWrong_31 : decode cX5_firstWrong 31 = .ok (.aload_n 0, 1) := by decide +kernel
theorem dX5_firstWrong_32 : decode cX5_firstWrong 32 = .ok (.getfield 15, 3) := by decide +kernel
theorem dX5_firstWrong_35 : decode cX5_firstWrong 35 = .ok (.bipush 59, 2) := by decide +kernel
theorem dX5_firstWrong_37 : decode cX5_firstWrong 37 = .ok (.invokevirtual 31, 3) := by decide +kernel
theorem dX5_firstWrong_40 : decode cX5_firstWrong 40 = .ok (.istore_n 1, 1) := by decide +kernel
theorem dX5_firstWrong_41 : decode cX5_firstWrong 41 = .ok (.iinc 2 1, 3) := by decide +kernel
theorem dX5_firstWrong_44 : decode cX5_firstWrong 44 = .ok (.goto (-28), 3) := by decide +kernel
theorem dX5_firstWrong_47 : decode cX5_firstWrong 47 = .ok (.aload_n 0, 1) := by decide +kernel
theorem dX5_firstWrong_48 : decode cX5_firstWrong 48 = .ok (.getfield 15, 3) := by decide +kernel
theorem dX5_firstWrong_51 : decode cX5_firstWrong 51 = .ok (.invokevirtual 35, 3) := by decide +kernel
theorem dX5_firstWrong_54 : decode cX5_firstWrong 54 = .ok (.aload_n 0, 1) := by decide +kernel
theorem dX5_firstWrong_55 : decode cX5_firstWrong 55 = .ok (.getfield 15, 3) := by decide +kernel
theorem dX5_firstWrong_58 : decode cX5_firstWrong 58 = .ok (.getfield 38, 3) := by decide +kernel
theorem dX5_firstWrong_61 : decode cX5_firstWrong 61 = .ok (.ireturn, 1) := by decide +kernel
theorem dX5_put_0 : decode cX5_put 0 = .ok (.aload_n 0, 1) := by decide +kernel
theorem dX5_put_1 : decode cX5_put 1 = .ok (.getfield 24, 3) := by decide +kernel
theorem dX5_put_4 : decode cX5_put 4 = .ok (.aload_n 0, 1) := by decide +kernel
theorem dX5_put_5 : decode cX5_put 5 = .ok (.getfield 9, 3) := by decide +kernel
theorem dX5_put_8 : decode cX5_put 8 = .ok (.arraylength, 1) := by decide +kernel
theorem dX5_put_9 : decode cX5_put 9 = .ok (.if_icmp .ge 23, 3) := by decide +kernel
theorem dX5_put_12 : decode cX5_put 12 = .ok (.aload_n 0, 1) := by decide +kernel
theorem dX5_put_13 : decode cX5_put 13 = .ok (.getfield 9, 3) := by decide +kernel
theorem dX5_put_16 : decode cX5_put 16 = .ok (.aload_n 0, 1) := by decide +kernel
theorem dX5_put_17 : decode cX5_put 17 = .ok (.getfield 24, 3) := by decide +kernel
theorem dX5_put_20 : decode cX5_put 20 = .ok (.iload_n 1, 1) := by decide +kernel
theorem dX5_put_21 : decode cX5_put 21 = .ok (.iastore, 1) := by decide +kernel
theorem dX5_put_22 : decode cX5_put 22 = .ok (.aload_n 0, 1) := by decide +kernel
theorem dX5_put_23 : decode cX5_put 23 = .ok (.dup, 1) := by decide +kernel
theorem dX5_put_24 : decode cX5_put 24 = .ok (.getfield 24, 3) := by decide +kernel
theorem dX5_put_27 : decode cX5_put 27 = .ok (.iconst 1, 1) := by decide +kernel
theorem dX5_put_28 : decode cX5_put 28 = .ok (.iadd, 1) := by decide +kernel
theorem dX5_put_29 : decode cX5_put 29 = .ok (.putfield 24, 3) := by decide +kernel
theorem dX5_put_32 : decode cX5_put 32 = .ok (.return_, 1) := by decide +kernel
theorem dX5_readClause_0 : decode cX5_readClause 0 = .ok (.aload_n 0, 1) := by decide +kernel
theorem dX5_readClause_1 : decode cX5_readClause 1 = .ok (.getfield 15, 3) := by decide +kernel
theorem dX5_readClause_4 : decode cX5_readClause 4 = .ok (.bipush 121, 2) := by decide +kernel
theorem dX5_readClause_6 : decode cX5_readClause 6 = .ok (.invokevirtual 41, 3) := by decide +kernel
theorem dX5_readClause_9 : decode cX5_readClause 9 = .ok (.aload_n 0, 1) := by decide +kernel
theorem dX5_readClause_10 : decode cX5_readClause 10 = .ok (.getfield 15, 3) := by decide +kernel
theorem dX5_readClause_13 : decode cX5_readClause 13 = .ok (.bipush 58, 2) := by decide +kernel
theorem dX5_readClause_15 : decode cX5_readClause 15 = .ok (.invokevirtual 41, 3) := by decide +kernel
theorem dX5_readClause_18 : decode cX5_readClause 18 = .ok (.aload_n 0, 1) := by decide +kernel
theorem dX5_readClause_19 : decode cX5_readClause 19 = .ok (.getfield 15, 3) := by decide +kernel
theorem dX5_readClause_22 : decode cX5_readClause 22 = .ok (.invokevirtual 45, 3) := by decide +kernel
theorem dX5_readClause_25 : decode cX5_readClause 25 = .ok (.istore_n 1, 1) := by decide +kernel
theorem dX5_readClause_26 : decode cX5_readClause 26 = .ok (.iload_n 1, 1) := by decide +kernel
theorem dX5_readClause_27 : decode cX5_readClause 27 = .ok (.bipush 33, 2) := by decide +kernel
theorem dX5_readClause_29 : decode cX5_readClause 29 = .ok (.if_icmp .eq 9, 3) := by decide +kernel
theorem dX5_readClause_32 : decode cX5_readClause 32 = .ok (.iload_n 1, 1) := by decide +kernel
theorem dX5_readClause_33 : decode cX5_readClause 33 = .ok (.bipush 40, 2) := by decide +kernel
theorem dX5_readClause_35 : decode cX5_readClause 35 = .ok (.if_icmp .ne 7, 3) := by decide +kernel
theorem dX5_readClause_38 : decode cX5_readClause 38 = .ok (.iconst 1, 1) := by decide +kernel
theorem dX5_readClause_39 : decode cX5_readClause 39 = .ok (.goto 4, 3) := by decide +kernel
theorem dX5_readClause_42 : decode cX5_readClause 42 = .ok (.iconst 0, 1) := by decide +kernel
theorem dX5_readClause_43 : decode cX5_readClause 43 = .ok (.istore_n 2, 1) := by decide +kernel
theorem dX5_readClause_44 : decode cX5_readClause 44 = .ok (.iload_n 2, 1) := by decide +kernel
theorem dX5_readClause_45 : decode cX5_readClause 45 = .ok (.ifCond .eq 11, 3) := by decide +kernel
theorem dX5_readClause_48 : decode cX5_readClause 48 = .ok (.aload_n 0, 1) := by decide +kernel
theorem dX5_readClause_49 : decode cX5_readClause 49 = .ok (.iconst 0, 1) := by decide +kernel
theorem dX5_readClause_50 : decode cX5_readClause 50 = .ok (.invokevirtual 49, 3) := by decide +kernel
theorem dX5_readClause_53 : decode cX5_readClause 53 = .ok (.goto 38, 3) := by decide +kernel
theorem dX5_readClause_56 : decode cX5_readClause 56 = .ok (.aload_n 0, 1) := by decide +kernel
theorem dX5_readClause_57 : decode cX5_readClause 57 = .ok (.iconst 0, 1) := by decide +kernel
theorem dX5_readClause_58 : decode cX5_readClause 58 = .ok (.invokevirtual 52, 3) := by decide +kernel
theorem dX5_readClause_61 : decode cX5_readClause 61 = .ok (.aload_n 0, 1) := by decide +kernel
theorem dX5_readClause_62 : decode cX5_readClause 62 = .ok (.getfield 15, 3) := by decide +kernel
theorem dX5_readClause_65 : decode cX5_readClause 65 = .ok (.invokevirtual 45, 3) := by decide +kernel
theorem dX5_readClause_68 : decode cX5_readClause 68 = .ok (.invokestatic 55, 3) := by decide +kernel
theorem dX5_readClause_71 : decode cX5_readClause 71 = .ok (.ifCond .eq 20, 3) := by decide +kernel
theorem dX5_readClause_74 : decode cX5_readClause 74 = .ok (.iconst 1, 1) := by decide +kernel
theorem dX5_readClause_75 : decode cX5_readClause 75 = .ok (.istore_n 2, 1) := by decide +kernel
theorem dX5_readClause_76 : decode cX5_readClause 76 = .ok (.aload_n 0, 1) := by decide +kernel
theorem dX5_readClause_77 : decode cX5_readClause 77 = .ok (.iconst 0, 1) := by decide +kernel
theorem dX5_readClause_78 : decode cX5_readClause 78 = .ok (.invokevirtual 58, 3) := by decide +kernel
theorem dX5_readClause_81 : decode cX5_readClause 81 = .ok (.aload_n 0, 1) := by decide +kernel
theorem dX5_readClause_82 : decode cX5_readClause 82 = .ok (.iconst 0, 1) := by decide +kernel
theorem dX5_readClause_83 : decode cX5_readClause 83 = .ok (.invokevirtual 61, 3) := by decide +kernel
theorem dX5_readClause_86 : decode cX5_readClause 86 = .ok (.aload_n 0, 1) := by decide +kernel
theorem dX5_readClause_87 : decode cX5_readClause 87 = .ok (.iconst 0, 1) := by decide +kernel
theorem dX5_readClause_88 : decode cX5_readClause 88 = .ok (.invokevirtual 64, 3) := by decide +kernel
theorem dX5_readClause_91 : decode cX5_readClause 91 = .ok (.iload_n 2, 1) := by decide +kernel
theorem dX5_readClause_92 : decode cX5_readClause 92 = .ok (.ifCond .eq 23, 3) := by decide +kernel
theorem dX5_readClause_95 : decode cX5_readClause 95 = .ok (.aload_n 0, 1) := by decide +kernel
theorem dX5_readClause_96 : decode cX5_readClause 96 = .ok (.getfield 15, 3) := by decide +kernel
theorem dX5_readClause_99 : decode cX5_readClause 99 = .ok (.bipush 63, 2) := by decide +kernel
theorem dX5_readClause_101 : decode cX5_readClause 101 = .ok (.invokevirtual 41, 3) := by decide +kernel
theorem dX5_readClause_104 : decode cX5_readClause 104 = .ok (.aload_n 0, 1) := by decide +kernel
theorem dX5_readClause_105 : decode cX5_readClause 105 = .ok (.bipush 63, 2) := by decide +kernel
theorem dX5_readClause_107 : decode cX5_readClause 107 = .ok (.invokevirtual 67, 3) := by decide +kernel
theorem dX5_readClause_110 : decode cX5_readClause 110 = .ok (.aload_n 0, 1) := by decide +kernel
theorem dX5_readClause_111 : decode cX5_readClause 111 = .ok (.iconst 0, 1) := by decide +kernel
theorem dX5_readClause_112 : decode cX5_readClause 112 = .ok (.invokevirtual 52, 3) := by decide +kernel
theorem dX5_readClause_115 : decode cX5_readClause 115 = .ok (.aload_n 0, 1) := by decide +kernel
theorem dX5_readClause_116 : decode cX5_readClause 116 = .ok (.bipush 59, 2) := by decide +kernel
theorem dX5_readClause_118 : decode cX5_readClause 118 = .ok (.invokevirtual 67, 3) := by decide +kernel
theorem dX5_readClause_121 : decode cX5_readClause 121 = .ok (.return_, 1) := by decide +kernel
theorem dX5_readCondition_0 : decode cX5_readCondition 0 = .ok (.aload_n 0, 1) := by decide +kernel
theorem dX5_readCondition_1 : decode cX5_readCondition 1 = .ok (.iload_n 1, 1) := by decide +kernel
theorem dX5_readCondition_2 : decode cX5_readCondition 2 = .ok (.invokevirtual 70, 3) := by decide +kernel
theorem dX5_readCondition_5 : decode cX5_readCondition 5 = .ok (.aload_n 0, 1) := by decide +kernel
theorem dX5_readCondition_6 : decode cX5_readCondition 6 = .ok (.iload_n 1, 1) := by decide +kernel
theorem dX5_readCondition_7 : decode cX5_readCondition 7 = .ok (.invokevirtual 64, 3) := by decide +kernel
theorem dX5_readCondition_10 : decode cX5_readCondition 10 = .ok (.return_, 1) := by decide +kernel
theorem dX5_readMoreTruths_0 : decode cX5_readMoreTruths 0 = .ok (.iconst 0, 1) := by decide +kernel
theorem dX5_readMoreTruths_1 : decode cX5_readMoreTruths 1 = .ok (.istore_n 2, 1) := by decide +kernel
theorem dX5_readMoreTruths_2 : decode cX5_readMoreTruths 2 = .ok (.iload_n 2, 1) := by decide +kernel
theorem dX5_readMoreTruths_3 : decode cX5_readMoreTruths 3 = .ok (.sipush 200, 3) := by decide +kernel
theorem dX5_readMoreTruths_6 : decode cX5_readMoreTruths 6 = .ok (.if_icmp .ge 32, 3) := by decide +kernel
theorem dX5_readMoreTruths_9 : decode cX5_readMoreTruths 9 = .ok (.aload_n 0, 1) := by decide +kernel
theorem dX5_readMoreTruths_10 : decode cX5_readMoreTruths 10 = .ok (.getfield 15, 3) := by decide +kernel
theorem dX5_readMoreTruths_13 : decode cX5_readMoreTruths 13 = .ok (.bipush 124, 2) := by decide +kernel
theorem dX5_readMoreTruths_15 : decode cX5_readMoreTruths 15 = .ok (.invokevirtual 31, 3) := by decide +kernel
theorem dX5_readMoreTruths_18 : decode cX5_readMoreTruths 18 = .ok (.ifCond .eq 20, 3) := by decide +kernel
theorem dX5_readMoreTruths_21 : decode cX5_readMoreTruths 21 = .ok (.aload_n 0, 1) := by decide +kernel
theorem dX5_readMoreTruths_22 : decode cX5_readMoreTruths 22 = .ok (.iload_n 1, 1) := by decide +kernel
theorem dX5_readMoreTruths_23 : decode cX5_readMoreTruths 23 = .ok (.invokevirtual 70, 3) := by decide +kernel
theorem dX5_readMoreTruths_26 : decode cX5_readMoreTruths 26 = .ok (.aload_n 0, 1) := by decide +kernel
theorem dX5_readMoreTruths_27 : decode cX5_readMoreTruths 27 = .ok (.bipush 124, 2) := by decide +kernel
theorem dX5_readMoreTruths_29 : decode cX5_readMoreTruths 29 = .ok (.invokevirtual 67, 3) := by decide +kernel
theorem dX5_readMoreTruths_32 : decode cX5_readMoreTruths 32 = .ok (.iinc 2 1, 3) := by decide +kernel
theorem dX5_readMoreTruths_35 : decode cX5_readMoreTruths 35 = .ok (.goto (-33), 3) := by decide +kernel
theorem dX5_readMoreTruths_38 : decode cX5_readMoreTruths 38 = .ok (.return_, 1) := by decide +kernel
theorem dX5_readTruth_0 : decode cX5_readTruth 0 = .ok (.aload_n 0, 1) := by decide +kernel
theorem dX5_readTruth_1 : decode cX5_readTruth 1 = .ok (.iload_n 1, 1) := by decide +kernel
theorem dX5_readTruth_2 : decode cX5_readTruth 2 = .ok (.invokevirtual 73, 3) := by decide +kernel
theorem dX5_readTruth_5 : decode cX5_readTruth 5 = .ok (.aload_n 0, 1) := by decide +kernel
theorem dX5_readTruth_6 : decode cX5_readTruth 6 = .ok (.iload_n 1, 1) := by decide +kernel
theorem dX5_readTruth_7 : decode cX5_readTruth 7 = .ok (.invokevirtual 61, 3) := by decide +kernel
theorem dX5_readTruth_10 : decode cX5_readTruth 10 = .ok (.return_, 1) := by decide +kernel
theorem dX5_readMoreUnits_0 : decode cX5_readMoreUnits 0 = .ok (.iconst 0, 1) := by decide +kernel
theorem dX5_readMoreUnits_1 : decode cX5_readMoreUnits 1 = .ok (.istore_n 2, 1) := by decide +kernel
theorem dX5_readMoreUnits_2 : decode cX5_readMoreUnits 2 = .ok (.iload_n 2, 1) := by decide +kernel
theorem dX5_readMoreUnits_3 : decode cX5_readMoreUnits 3 = .ok (.sipush 200, 3) := by decide +kernel
theorem dX5_readMoreUnits_6 : decode cX5_readMoreUnits 6 = .ok (.if_icmp .ge 32, 3) := by decide +kernel
theorem dX5_readMoreUnits_9 : decode cX5_readMoreUnits 9 = .ok (.aload_n 0, 1) := by decide +kernel
theorem dX5_readMoreUnits_10 : decode cX5_readMoreUnits 10 = .ok (.getfield 15, 3) := by decide +kernel
theorem dX5_readMoreUnits_13 : decode cX5_readMoreUnits 13 = .ok (.bipush 38, 2) := by decide +kernel
theorem dX5_readMoreUnits_15 : decode cX5_readMoreUnits 15 = .ok (.invokevirtual 31, 3) := by decide +kernel
theorem dX5_readMoreUnits_18 : decode cX5_readMoreUnits 18 = .ok (.ifCond .eq 20, 3) := by decide +kernel
theorem dX5_readMoreUnits_21 : decode cX5_readMoreUnits 21 = .ok (.aload_n 0, 1) := by decide +kernel
theorem dX5_readMoreUnits_22 : decode cX5_readMoreUnits 22 = .ok (.iload_n 1, 1) := by decide +kernel
theorem dX5_readMoreUnits_23 : decode cX5_readMoreUnits 23 = .ok (.invokevirtual 73, 3) := by decide +kernel
theorem dX5_readMoreUnits_26 : decode cX5_readMoreUnits 26 = .ok (.aload_n 0, 1) := by decide +kernel
theorem dX5_readMoreUnits_27 : decode cX5_readMoreUnits 27 = .ok (.bipush 38, 2) := by decide +kernel
theorem dX5_readMoreUnits_29 : decode cX5_readMoreUnits 29 = .ok (.invokevirtual 67, 3) := by decide +kernel
theorem dX5_readMoreUnits_32 : decode cX5_readMoreUnits 32 = .ok (.iinc 2 1, 3) := by decide +kernel
theorem dX5_readMoreUnits_35 : decode cX5_readMoreUnits 35 = .ok (.goto (-33), 3) := by decide +kernel
theorem dX5_readMoreUnits_38 : decode cX5_readMoreUnits 38 = .ok (.return_, 1) := by decide +kernel
theorem dX5_readUnit_0 : decode cX5_readUnit 0 = .ok (.aload_n 0, 1) := by decide +kernel
theorem dX5_readUnit_1 : decode cX5_readUnit 1 = .ok (.getfield 15, 3) := by decide +kernel
theorem dX5_readUnit_4 : decode cX5_readUnit 4 = .ok (.invokevirtual 45, 3) := by decide +kernel
theorem dX5_readUnit_7 : decode cX5_readUnit 7 = .ok (.istore_n 2, 1) := by decide +kernel
theorem dX5_readUnit_8 : decode cX5_readUnit 8 = .ok (.iload_n 2, 1) := by decide +kernel
theorem dX5_readUnit_9 : decode cX5_readUnit 9 = .ok (.bipush 33, 2) := by decide +kernel
theorem dX5_readUnit_11 : decode cX5_readUnit 11 = .ok (.if_icmp .ne 27, 3) := by decide +kernel
theorem dX5_readUnit_14 : decode cX5_readUnit 14 = .ok (.aload_n 0, 1) := by decide +kernel
theorem dX5_readUnit_15 : decode cX5_readUnit 15 = .ok (.iload_n 1, 1) := by decide +kernel
theorem dX5_readUnit_16 : decode cX5_readUnit 16 = .ok (.invokevirtual 76, 3) := by decide +kernel
theorem dX5_readUnit_19 : decode cX5_readUnit 19 = .ok (.ifCond .eq 62, 3) := by decide +kernel
theorem dX5_readUnit_22 : decode cX5_readUnit 22 = .ok (.aload_n 0, 1) := by decide +kernel
theorem dX5_readUnit_23 : decode cX5_readUnit 23 = .ok (.iload_n 1, 1) := by decide +kernel
theorem dX5_readUnit_24 : decode cX5_readUnit 24 = .ok (.iconst 1, 1) := by decide +kernel
theorem dX5_readUnit_25 : decode cX5_readUnit 25 = .ok (.iadd, 1) := by decide +kernel
theorem dX5_readUnit_26 : decode cX5_readUnit 26 = .ok (.invokevirtual 73, 3) := by decide +kernel
theorem dX5_readUnit_29 : decode cX5_readUnit 29 = .ok (.aload_n 0, 1) := by decide +kernel
theorem dX5_readUnit_30 : decode cX5_readUnit 30 = .ok (.bipush 33, 2) := by decide +kernel
theorem dX5_readUnit_32 : decode cX5_readUnit 32 = .ok (.invokevirtual 67, 3) := by decide +kernel
theorem dX5_readUnit_35 : decode cX5_readUnit 35 = .ok (.goto 46, 3) := by decide +kernel
theorem dX5_readUnit_38 : decode cX5_readUnit 38 = .ok (.iload_n 2, 1) := by decide +kernel
theorem dX5_readUnit_39 : decode cX5_readUnit 39 = .ok (.bipush 40, 2) := by decide +kernel
theorem dX5_readUnit_41 : decode cX5_readUnit 41 = .ok (.if_icmp .ne 30, 3) := by decide +kernel
theorem dX5_readUnit_44 : decode cX5_readUnit 44 = .ok (.aload_n 0, 1) := by decide +kernel
theorem dX5_readUnit_45 : decode cX5_readUnit 45 = .ok (.iload_n 1, 1) := by decide +kernel
theorem dX5_readUnit_46 : decode cX5_readUnit 46 = .ok (.invokevirtual 76, 3) := by decide +kernel
theorem dX5_readUnit_49 : decode cX5_readUnit 49 = .ok (.ifCond .eq 32, 3) := by decide +kernel
theorem dX5_readUnit_52 : decode cX5_readUnit 52 = .ok (.aload_n 0, 1) := by decide +kernel
theorem dX5_readUnit_53 : decode cX5_readUnit 53 = .ok (.iload_n 1, 1) := by decide +kernel
theorem dX5_readUnit_54 : decode cX5_readUnit 54 = .ok (.iconst 1, 1) := by decide +kernel
theorem dX5_readUnit_55 : decode cX5_readUnit 55 = .ok (.iadd, 1) := by decide +kernel
theorem dX5_readUnit_56 : decode cX5_readUnit 56 = .ok (.invokevirtual 49, 3) := by decide +kernel
theorem dX5_readUnit_59 : decode cX5_readUnit 59 = .ok (.aload_n 0, 1) := by decide +kernel
theorem dX5_readUnit_60 : decode cX5_readUnit 60 = .ok (.getfield 15, 3) := by decide +kernel
theorem dX5_readUnit_63 : decode cX5_readUnit 63 = .ok (.bipush 41, 2) := by decide +kernel
theorem dX5_readUnit_65 : decode cX5_readUnit 65 = .ok (.invokevirtual 41, 3) := by decide +kernel
theorem dX5_readUnit_68 : decode cX5_readUnit 68 = .ok (.goto 13, 3) := by decide +kernel
theorem dX5_readUnit_71 : decode cX5_readUnit 71 = .ok (.aload_n 0, 1) := by decide +kernel
theorem dX5_readUnit_72 : decode cX5_readUnit 72 = .ok (.iload_n 1, 1) := by decide +kernel
theorem dX5_readUnit_73 : decode cX5_readUnit 73 = .ok (.invokevirtual 52, 3) := by decide +kernel
theorem dX5_readUnit_76 : decode cX5_readUnit 76 = .ok (.aload_n 0, 1) := by decide +kernel
theorem dX5_readUnit_77 : decode cX5_readUnit 77 = .ok (.iload_n 1, 1) := by decide +kernel
theorem dX5_readUnit_78 : decode cX5_readUnit 78 = .ok (.invokevirtual 58, 3) := by decide +kernel
theorem dX5_readUnit_81 : decode cX5_readUnit 81 = .ok (.return_, 1) := by decide +kernel
theorem dX5_enters_0 : decode cX5_enters 0 = .ok (.iload_n 1, 1) := by decide +kernel
theorem dX5_enters_1 : decode cX5_enters 1 = .ok (.bipush 6, 2) := by decide +kernel
theorem dX5_enters_3 : decode cX5_enters 3 = .ok (.if_icmp .lt 12, 3) := by decide +kernel
theorem dX5_enters_6 : decode cX5_enters 6 = .ok (.aload_n 0, 1) := by decide +kernel
theorem dX5_enters_7 : decode cX5_enters 7 = .ok (.getfield 15, 3) := by decide +kernel
theorem dX5_enters_10 : decode cX5_enters 10 = .ok (.invokevirtual 79, 3) := by decide +kernel
theorem dX5_enters_13 : decode cX5_enters 13 = .ok (.iconst 0, 1) := by decide +kernel
theorem dX5_enters_14 : decode cX5_enters 14 = .ok (.ireturn, 1) := by decide +kernel
theorem dX5_enters_15 : decode cX5_enters 15 = .ok (.aload_n 0, 1) := by decide +kernel
theorem dX5_enters_16 : decode cX5_enters 16 = .ok (.getfield 15, 3) := by decide +kernel
theorem dX5_enters_19 : decode cX5_enters 19 = .ok (.dup, 1) := by decide +kernel
theorem dX5_enters_20 : decode cX5_enters 20 = .ok (.getfield 82, 3) := by decide +kernel
theorem dX5_enters_23 : decode cX5_enters 23 = .ok (.iconst 1, 1) := by decide +kernel
theorem dX5_enters_24 : decode cX5_enters 24 = .ok (.iadd, 1) := by decide +kernel
theorem dX5_enters_25 : decode cX5_enters 25 = .ok (.putfield 82, 3) := by decide +kernel
theorem dX5_enters_28 : decode cX5_enters 28 = .ok (.iconst 1, 1) := by decide +kernel
theorem dX5_enters_29 : decode cX5_enters 29 = .ok (.ireturn, 1) := by decide +kernel
theorem dX5_isRelation_0 : decode cX5_isRelation 0 = .ok (.iload_n 0, 1) := by decide +kernel
theorem dX5_isRelation_1 : decode cX5_isRelation 1 = .ok (.bipush 61, 2) := by decide +kernel
theorem dX5_isRelation_3 : decode cX5_isRelation 3 = .ok (.if_icmp .eq 15, 3) := by decide +kernel
theorem dX5_isRelation_6 : decode cX5_isRelation 6 = .ok (.iload_n 0, 1) := by decide +kernel
theorem dX5_isRelation_7 : decode cX5_isRelation 7 = .ok (.bipush 60, 2) := by decide +kernel
theorem dX5_isRelation_9 : decode cX5_isRelation 9 = .ok (.if_icmp .eq 9, 3) := by decide +kernel
theorem dX5_isRelation_12 : decode cX5_isRelation 12 = .ok (.iload_n 0, 1) := by decide +kernel
theorem dX5_isRelation_13 : decode cX5_isRelation 13 = .ok (.bipush 62, 2) := by decide +kernel
theorem dX5_isRelation_15 : decode cX5_isRelation 15 = .ok (.if_icmp .ne 7, 3) := by decide +kernel
theorem dX5_isRelation_18 : decode cX5_isRelation 18 = .ok (.iconst 1, 1) := by decide +kernel
theorem dX5_isRelation_19 : decode cX5_isRelation 19 = .ok (.goto 4, 3) := by decide +kernel
theorem dX5_isRelation_22 : decode cX5_isRelation 22 = .ok (.iconst 0, 1) := by decide +kernel
theorem dX5_isRelation_23 : decode cX5_isRelation 23 = .ok (.ireturn, 1) := by decide +kernel
theorem dX5_readRelation_0 : decode cX5_readRelation 0 = .ok (.aload_n 0, 1) := by decide +kernel
theorem dX5_readRelation_1 : decode cX5_readRelation 1 = .ok (.getfield 15, 3) := by decide +kernel
theorem dX5_readRelation_4 : decode cX5_readRelation 4 = .ok (.invokevirtual 45, 3) := by decide +kernel
theorem dX5_readRelation_7 : decode cX5_readRelation 7 = .ok (.istore_n 2, 1) := by decide +kernel
theorem dX5_readRelation_8 : decode cX5_readRelation 8 = .ok (.iload_n 2, 1) := by decide +kernel
theorem dX5_readRelation_9 : decode cX5_readRelation 9 = .ok (.invokestatic 55, 3) := by decide +kernel
theorem dX5_readRelation_12 : decode cX5_readRelation 12 = .ok (.ifCond .ne 11, 3) := by decide +kernel
theorem dX5_readRelation_15 : decode cX5_readRelation 15 = .ok (.aload_n 0, 1) := by decide +kernel
theorem dX5_readRelation_16 : decode cX5_readRelation 16 = .ok (.getfield 15, 3) := by decide +kernel
theorem dX5_readRelation_19 : decode cX5_readRelation 19 = .ok (.invokevirtual 79, 3) := by decide +kernel
theorem dX5_readRelation_22 : decode cX5_readRelation 22 = .ok (.return_, 1) := by decide +kernel
theorem dX5_readRelation_23 : decode cX5_readRelation 23 = .ok (.aload_n 0, 1) := by decide +kernel
theorem dX5_readRelation_24 : decode cX5_readRelation 24 = .ok (.getfield 15, 3) := by decide +kernel
theorem dX5_readRelation_27 : decode cX5_readRelation 27 = .ok (.dup, 1) := by decide +kernel
theorem dX5_readRelation_28 : decode cX5_readRelation 28 = .ok (.getfield 82, 3) := by decide +kernel
theorem dX5_readRelation_31 : decode cX5_readRelation 31 = .ok (.iconst 1, 1) := by decide +kernel
theorem dX5_readRelation_32 : decode cX5_readRelation 32 = .ok (.iadd, 1) := by decide +kernel
theorem dX5_readRelation_33 : decode cX5_readRelation 33 = .ok (.putfield 82, 3) := by decide +kernel
theorem dX5_readRelation_36 : decode cX5_readRelation 36 = .ok (.aload_n 0, 1) := by decide +kernel
theorem dX5_readRelation_37 : decode cX5_readRelation 37 = .ok (.iload_n 1, 1) := by decide +kernel
theorem dX5_readRelation_38 : decode cX5_readRelation 38 = .ok (.invokevirtual 52, 3) := by decide +kernel
theorem dX5_readRelation_41 : decode cX5_readRelation 41 = .ok (.aload_n 0, 1) := by decide +kernel
theorem dX5_readRelation_42 : decode cX5_readRelation 42 = .ok (.iload_n 2, 1) := by decide +kernel
theorem dX5_readRelation_43 : decode cX5_readRelation 43 = .ok (.invokevirtual 67, 3) := by decide +kernel
theorem dX5_readRelation_46 : decode cX5_readRelation 46 = .ok (.return_, 1) := by decide +kernel
theorem dX5_readSum_0 : decode cX5_readSum 0 = .ok (.aload_n 0, 1) := by decide +kernel
theorem dX5_readSum_1 : decode cX5_readSum 1 = .ok (.iload_n 1, 1) := by decide +kernel
theorem dX5_readSum_2 : decode cX5_readSum 2 = .ok (.invokevirtual 85, 3) := by decide +kernel
theorem dX5_readSum_5 : decode cX5_readSum 5 = .ok (.aload_n 0, 1) := by decide +kernel
theorem dX5_readSum_6 : decode cX5_readSum 6 = .ok (.getfield 15, 3) := by decide +kernel
theorem dX5_readSum_9 : decode cX5_readSum 9 = .ok (.invokevirtual 45, 3) := by decide +kernel
theorem dX5_readSum_12 : decode cX5_readSum 12 = .ok (.istore_n 2, 1) := by decide +kernel
theorem dX5_readSum_13 : decode cX5_readSum 13 = .ok (.iconst 0, 1) := by decide +kernel
theorem dX5_readSum_14 : decode cX5_readSum 14 = .ok (.istore_n 3, 1) := by decide +kernel
theorem dX5_readSum_15 : decode cX5_readSum 15 = .ok (.iload_n 3, 1) := by decide +kernel
theorem dX5_readSum_16 : decode cX5_readSum 16 = .ok (.sipush 200, 3) := by decide +kernel
theorem dX5_readSum_19 : decode cX5_readSum 19 = .ok (.if_icmp .ge 52, 3) := by decide +kernel
theorem dX5_readSum_22 : decode cX5_readSum 22 = .ok (.iload_n 2, 1) := by decide +kernel
theorem dX5_readSum_23 : decode cX5_readSum 23 = .ok (.bipush 43, 2) := by decide +kernel
theorem dX5_readSum_25 : decode cX5_readSum 25 = .ok (.if_icmp .eq 9, 3) := by decide +kernel
theorem dX5_readSum_28 : decode cX5_readSum 28 = .ok (.iload_n 2, 1) := by decide +kernel
theorem dX5_readSum_29 : decode cX5_readSum 29 = .ok (.bipush 45, 2) := by decide +kernel
theorem dX5_readSum_31 : decode cX5_readSum 31 = .ok (.if_icmp .ne 40, 3) := by decide +kernel
theorem dX5_readSum_34 : decode cX5_readSum 34 = .ok (.aload_n 0, 1) := by decide +kernel
theorem dX5_readSum_35 : decode cX5_readSum 35 = .ok (.getfield 15, 3) := by decide +kernel
theorem dX5_readSum_38 : decode cX5_readSum 38 = .ok (.dup, 1) := by decide +kernel
theorem dX5_readSum_39 : decode cX5_readSum 39 = .ok (.getfield 82, 3) := by decide +kernel
theorem dX5_readSum_42 : decode cX5_readSum 42 = .ok (.iconst 1, 1) := by decide +kernel
theorem dX5_readSum_43 : decode cX5_readSum 43 = .ok (.iadd, 1) := by decide +kernel
theorem dX5_readSum_44 : decode cX5_readSum 44 = .ok (.putfield 82, 3) := by decide +kernel
theorem dX5_readSum_47 : decode cX5_readSum 47 = .ok (.aload_n 0, 1) := by decide +kernel
theorem dX5_readSum_48 : decode cX5_readSum 48 = .ok (.iload_n 1, 1) := by decide +kernel
theorem dX5_readSum_49 : decode cX5_readSum 49 = .ok (.invokevirtual 85, 3) := by decide +kernel
theorem dX5_readSum_52 : decode cX5_readSum 52 = .ok (.aload_n 0, 1) := by decide +kernel
theorem dX5_readSum_53 : decode cX5_readSum 53 = .ok (.iload_n 2, 1) := by decide +kernel
theorem dX5_readSum_54 : decode cX5_readSum 54 = .ok (.invokevirtual 67, 3) := by decide +kernel
theorem dX5_readSum_57 : decode cX5_readSum 57 = .ok (.aload_n 0, 1) := by decide +kernel
theorem dX5_readSum_58 : decode cX5_readSum 58 = .ok (.getfield 15, 3) := by decide +kernel
theorem dX5_readSum_61 : decode cX5_readSum 61 = .ok (.invokevirtual 45, 3) := by decide +kernel
theorem dX5_readSum_64 : decode cX5_readSum 64 = .ok (.istore_n 2, 1) := by decide +kernel
theorem dX5_readSum_65 : decode cX5_readSum 65 = .ok (.iinc 3 1, 3) := by decide +kernel
theorem dX5_readSum_68 : decode cX5_readSum 68 = .ok (.goto (-53), 3) := by decide +kernel
theorem dX5_readSum_71 : decode cX5_readSum 71 = .ok (.return_, 1) := by decide +kernel
theorem dX5_readTerm_0 : decode cX5_readTerm 0 = .ok (.aload_n 0, 1) := by decide +kernel
theorem dX5_readTerm_1 : decode cX5_readTerm 1 = .ok (.iload_n 1, 1) := by decide +kernel
theorem dX5_readTerm_2 : decode cX5_readTerm 2 = .ok (.invokevirtual 88, 3) := by decide +kernel
theorem dX5_readTerm_5 : decode cX5_readTerm 5 = .ok (.aload_n 0, 1) := by decide +kernel
theorem dX5_readTerm_6 : decode cX5_readTerm 6 = .ok (.getfield 15, 3) := by decide +kernel
theorem dX5_readTerm_9 : decode cX5_readTerm 9 = .ok (.invokevirtual 45, 3) := by decide +kernel
theorem dX5_readTerm_12 : decode cX5_readTerm 12 = .ok (.istore_n 2, 1) := by decide +kernel
theorem dX5_readTerm_13 : decode cX5_readTerm 13 = .ok (.iconst 0, 1) := by decide +kernel
theorem dX5_readTerm_14 : decode cX5_readTerm 14 = .ok (.istore_n 3, 1) := by decide +kernel
theorem dX5_readTerm_15 : decode cX5_readTerm 15 = .ok (.iload_n 3, 1) := by decide +kernel
theorem dX5_readTerm_16 : decode cX5_readTerm 16 = .ok (.sipush 200, 3) := by decide +kernel
theorem dX5_readTerm_19 : decode cX5_readTerm 19 = .ok (.if_icmp .ge 52, 3) := by decide +kernel
theorem dX5_readTerm_22 : decode cX5_readTerm 22 = .ok (.iload_n 2, 1) := by decide +kernel
theorem dX5_readTerm_23 : decode cX5_readTerm 23 = .ok (.bipush 42, 2) := by decide +kernel
theorem dX5_readTerm_25 : decode cX5_readTerm 25 = .ok (.if_icmp .eq 9, 3) := by decide +kernel
theorem dX5_readTerm_28 : decode cX5_readTerm 28 = .ok (.iload_n 2, 1) := by decide +kernel
theorem dX5_readTerm_29 : decode cX5_readTerm 29 = .ok (.bipush 47, 2) := by decide +kernel
theorem dX5_readTerm_31 : decode cX5_readTerm 31 = .ok (.if_icmp .ne 40, 3) := by decide +kernel
theorem dX5_readTerm_34 : decode cX5_readTerm 34 = .ok (.aload_n 0, 1) := by decide +kernel
theorem dX5_readTerm_35 : decode cX5_readTerm 35 = .ok (.getfield 15, 3) := by decide +kernel
theorem dX5_readTerm_38 : decode cX5_readTerm 38 = .ok (.dup, 1) := by decide +kernel
theorem dX5_readTerm_39 : decode cX5_readTerm 39 = .ok (.getfield 82, 3) := by decide +kernel
theorem dX5_readTerm_42 : decode cX5_readTerm 42 = .ok (.iconst 1, 1) := by decide +kernel
theorem dX5_readTerm_43 : decode cX5_readTerm 43 = .ok (.iadd, 1) := by decide +kernel
theorem dX5_readTerm_44 : decode cX5_readTerm 44 = .ok (.putfield 82, 3) := by decide +kernel
theorem dX5_readTerm_47 : decode cX5_readTerm 47 = .ok (.aload_n 0, 1) := by decide +kernel
theorem dX5_readTerm_48 : decode cX5_readTerm 48 = .ok (.iload_n 1, 1) := by decide +kernel
theorem dX5_readTerm_49 : decode cX5_readTerm 49 = .ok (.invokevirtual 88, 3) := by decide +kernel
theorem dX5_readTerm_52 : decode cX5_readTerm 52 = .ok (.aload_n 0, 1) := by decide +kernel
theorem dX5_readTerm_53 : decode cX5_readTerm 53 = .ok (.iload_n 2, 1) := by decide +kernel
theorem dX5_readTerm_54 : decode cX5_readTerm 54 = .ok (.invokevirtual 67, 3) := by decide +kernel
theorem dX5_readTerm_57 : decode cX5_readTerm 57 = .ok (.aload_n 0, 1) := by decide +kernel
theorem dX5_readTerm_58 : decode cX5_readTerm 58 = .ok (.getfield 15, 3) := by decide +kernel
theorem dX5_readTerm_61 : decode cX5_readTerm 61 = .ok (.invokevirtual 45, 3) := by decide +kernel
theorem dX5_readTerm_64 : decode cX5_readTerm 64 = .ok (.istore_n 2, 1) := by decide +kernel
theorem dX5_readTerm_65 : decode cX5_readTerm 65 = .ok (.iinc 3 1, 3) := by decide +kernel
theorem dX5_readTerm_68 : decode cX5_readTerm 68 = .ok (.goto (-53), 3) := by decide +kernel
theorem dX5_readTerm_71 : decode cX5_readTerm 71 = .ok (.return_, 1) := by decide +kernel
theorem dX5_readAtom_0 : decode cX5_readAtom 0 = .ok (.aload_n 0, 1) := by decide +kernel
theorem dX5_readAtom_1 : decode cX5_readAtom 1 = .ok (.getfield 15, 3) := by decide +kernel
theorem dX5_readAtom_4 : decode cX5_readAtom 4 = .ok (.invokevirtual 45, 3) := by decide +kernel
theorem dX5_readAtom_7 : decode cX5_readAtom 7 = .ok (.istore_n 2, 1) := by decide +kernel
theorem dX5_readAtom_8 : decode cX5_readAtom 8 = .ok (.ldc 91, 2) := by decide +kernel
theorem dX5_readAtom_10 : decode cX5_readAtom 10 = .ok (.iload_n 2, 1) := by decide +kernel
theorem dX5_readAtom_11 : decode cX5_readAtom 11 = .ok (.i2c, 1) := by decide +kernel
theorem dX5_readAtom_12 : decode cX5_readAtom 12 = .ok (.invokevirtual 93, 3) := by decide +kernel
theorem dX5_readAtom_15 : decode cX5_readAtom 15 = .ok (.istore_n 3, 1) := by decide +kernel
theorem dX5_readAtom_16 : decode cX5_readAtom 16 = .ok (.iload_n 2, 1) := by decide +kernel
theorem dX5_readAtom_17 : decode cX5_readAtom 17 = .ok (.invokestatic 99, 3) := by decide +kernel
theorem dX5_readAtom_20 : decode cX5_readAtom 20 = .ok (.ifCond .eq 26, 3) := by decide +kernel
theorem dX5_readAtom_23 : decode cX5_readAtom 23 = .ok (.aload_n 0, 1) := by decide +kernel
theorem dX5_readAtom_24 : decode cX5_readAtom 24 = .ok (.sipush 2000, 3) := by decide +kernel
theorem dX5_readAtom_27 : decode cX5_readAtom 27 = .ok (.aload_n 0, 1) := by decide +kernel
theorem dX5_readAtom_28 : decode cX5_readAtom 28 = .ok (.getfield 15, 3) := by decide +kernel
theorem dX5_readAtom_31 : decode cX5_readAtom 31 = .ok (.iconst 4, 1) := by decide +kernel
theorem dX5_readAtom_32 : decode cX5_readAtom 32 = .ok (.iconst 0, 1) := by decide +kernel
theorem dX5_readAtom_33 : decode cX5_readAtom 33 = .ok (.sipush 9999, 3) := by decide +kernel
theorem dX5_readAtom_36 : decode cX5_readAtom 36 = .ok (.invokevirtual 102, 3) := by decide +kernel
theorem dX5_readAtom_39 : decode cX5_readAtom 39 = .ok (.iadd, 1) := by decide +kernel
theorem dX5_readAtom_40 : decode cX5_readAtom 40 = .ok (.invokevirtual 67, 3) := by decide +kernel
theorem dX5_readAtom_43 : decode cX5_readAtom 43 = .ok (.goto 72, 3) := by decide +kernel
theorem dX5_readAtom_46 : decode cX5_readAtom 46 = .ok (.iload_n 3, 1) := by decide +kernel
theorem dX5_readAtom_47 : decode cX5_readAtom 47 = .ok (.ifCond .lt 28, 3) := by decide +kernel
theorem dX5_readAtom_50 : decode cX5_readAtom 50 = .ok (.aload_n 0, 1) := by decide +kernel
theorem dX5_readAtom_51 : decode cX5_readAtom 51 = .ok (.getfield 15, 3) := by decide +kernel
theorem dX5_readAtom_54 : decode cX5_readAtom 54 = .ok (.dup, 1) := by decide +kernel
theorem dX5_readAtom_55 : decode cX5_readAtom 55 = .ok (.getfield 82, 3) := by decide +kernel
theorem dX5_readAtom_58 : decode cX5_readAtom 58 = .ok (.iconst 1, 1) := by decide +kernel
theorem dX5_readAtom_59 : decode cX5_readAtom 59 = .ok (.iadd, 1) := by decide +kernel
theorem dX5_readAtom_60 : decode cX5_readAtom 60 = .ok (.putfield 82, 3) := by decide +kernel
theorem dX5_readAtom_63 : decode cX5_readAtom 63 = .ok (.aload_n 0, 1) := by decide +kernel
theorem dX5_readAtom_64 : decode cX5_readAtom 64 = .ok (.sipush 1000, 3) := by decide +kernel
theorem dX5_readAtom_67 : decode cX5_readAtom 67 = .ok (.iload_n 3, 1) := by decide +kernel
theorem dX5_readAtom_68 : decode cX5_readAtom 68 = .ok (.iadd, 1) := by decide +kernel
theorem dX5_readAtom_69 : decode cX5_readAtom 69 = .ok (.invokevirtual 67, 3) := by decide +kernel
theorem dX5_readAtom_72 : decode cX5_readAtom 72 = .ok (.goto 43, 3) := by decide +kernel
theorem dX5_readAtom_75 : decode cX5_readAtom 75 = .ok (.iload_n 2, 1) := by decide +kernel
theorem dX5_readAtom_76 : decode cX5_readAtom 76 = .ok (.bipush 91, 2) := by decide +kernel
theorem dX5_readAtom_78 : decode cX5_readAtom 78 = .ok (.if_icmp .ne 30, 3) := by decide +kernel
theorem dX5_readAtom_81 : decode cX5_readAtom 81 = .ok (.aload_n 0, 1) := by decide +kernel
theorem dX5_readAtom_82 : decode cX5_readAtom 82 = .ok (.iload_n 1, 1) := by decide +kernel
theorem dX5_readAtom_83 : decode cX5_readAtom 83 = .ok (.invokevirtual 76, 3) := by decide +kernel
theorem dX5_readAtom_86 : decode cX5_readAtom 86 = .ok (.ifCond .eq 29, 3) := by decide +kernel
theorem dX5_readAtom_89 : decode cX5_readAtom 89 = .ok (.aload_n 0, 1) := by decide +kernel
theorem dX5_readAtom_90 : decode cX5_readAtom 90 = .ok (.iload_n 1, 1) := by decide +kernel
theorem dX5_readAtom_91 : decode cX5_readAtom 91 = .ok (.iconst 1, 1) := by decide +kernel
theorem dX5_readAtom_92 : decode cX5_readAtom 92 = .ok (.iadd, 1) := by decide +kernel
theorem dX5_readAtom_93 : decode cX5_readAtom 93 = .ok (.invokevirtual 52, 3) := by decide +kernel
theorem dX5_readAtom_96 : decode cX5_readAtom 96 = .ok (.aload_n 0, 1) := by decide +kernel
