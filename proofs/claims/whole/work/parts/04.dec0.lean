theorem dX0_init_0 : decode cX0_init 0 = .ok (.aload_n 0, 1) := by decide +kernel
theorem dX0_init_1 : decode cX0_init 1 = .ok (.invokespecial 3, 3) := by decide +kernel
theorem dX0_init_4 : decode cX0_init 4 = .ok (.aload_n 0, 1) := by decide +kernel
theorem dX0_init_5 : decode cX0_init 5 = .ok (.iconst 0, 1) := by decide +kernel
theorem dX0_init_6 : decode cX0_init 6 = .ok (.iload_n 1, 1) := by decide +kernel
theorem dX0_init_7 : decode cX0_init 7 = .ok (.invokestatic 9, 3) := by decide +kernel
theorem dX0_init_10 : decode cX0_init 10 = .ok (.newarray .int, 2) := by decide +kernel
theorem dX0_init_12 : decode cX0_init 12 = .ok (.putfield 15, 3) := by decide +kernel
theorem dX0_init_15 : decode cX0_init 15 = .ok (.return_, 1) := by decide +kernel
theorem dX0_add_0 : decode cX0_add 0 = .ok (.aload_n 0, 1) := by decide +kernel
theorem dX0_add_1 : decode cX0_add 1 = .ok (.getfield 21, 3) := by decide +kernel
theorem dX0_add_4 : decode cX0_add 4 = .ok (.ifCond .lt 39, 3) := by decide +kernel
theorem dX0_add_7 : decode cX0_add 7 = .ok (.aload_n 0, 1) := by decide +kernel
theorem dX0_add_8 : decode cX0_add 8 = .ok (.getfield 21, 3) := by decide +kernel
theorem dX0_add_11 : decode cX0_add 11 = .ok (.aload_n 0, 1) := by decide +kernel
theorem dX0_add_12 : decode cX0_add 12 = .ok (.getfield 15, 3) := by decide +kernel
theorem dX0_add_15 : decode cX0_add 15 = .ok (.arraylength, 1) := by decide +kernel
theorem dX0_add_16 : decode cX0_add 16 = .ok (.if_icmp .ge 27, 3) := by decide +kernel
theorem dX0_add_19 : decode cX0_add 19 = .ok (.aload_n 0, 1) := by decide +kernel
theorem dX0_add_20 : decode cX0_add 20 = .ok (.getfield 15, 3) := by decide +kernel
theorem dX0_add_23 : decode cX0_add 23 = .ok (.aload_n 0, 1) := by decide +kernel
theorem dX0_add_24 : decode cX0_add 24 = .ok (.getfield 21, 3) := by decide +kernel
theorem dX0_add_27 : decode cX0_add 27 = .ok (.iload_n 1, 1) := by decide +kernel
theorem dX0_add_28 : decode cX0_add 28 = .ok (.sipush 255, 3) := by decide +kernel
theorem dX0_add_31 : decode cX0_add 31 = .ok (.iand, 1) := by decide +kernel
theorem dX0_add_32 : decode cX0_add 32 = .ok (.iastore, 1) := by decide +kernel
theorem dX0_add_33 : decode cX0_add 33 = .ok (.aload_n 0, 1) := by decide +kernel
theorem dX0_add_34 : decode cX0_add 34 = .ok (.dup, 1) := by decide +kernel
theorem dX0_add_35 : decode cX0_add 35 = .ok (.getfield 21, 3) := by decide +kernel
theorem dX0_add_38 : decode cX0_add 38 = .ok (.iconst 1, 1) := by decide +kernel
theorem dX0_add_39 : decode cX0_add 39 = .ok (.iadd, 1) := by decide +kernel
theorem dX0_add_40 : decode cX0_add 40 = .ok (.putfield 21, 3) := by decide +kernel
theorem dX0_add_43 : decode cX0_add 43 = .ok (.return_, 1) := by decide +kernel
theorem dX0_addNumber_0 : decode cX0_addNumber 0 = .ok (.aload_n 0, 1) := by decide +kernel
theorem dX0_addNumber_1 : decode cX0_addNumber 1 = .ok (.iload_n 1, 1) := by decide +kernel
theorem dX0_addNumber_2 : decode cX0_addNumber 2 = .ok (.bipush 24, 2) := by decide +kernel
theorem dX0_addNumber_4 : decode cX0_addNumber 4 = .ok (.iushr, 1) := by decide +kernel
theorem dX0_addNumber_5 : decode cX0_addNumber 5 = .ok (.invokevirtual 25, 3) := by decide +kernel
theorem dX0_addNumber_8 : decode cX0_addNumber 8 = .ok (.aload_n 0, 1) := by decide +kernel
theorem dX0_addNumber_9 : decode cX0_addNumber 9 = .ok (.iload_n 1, 1) := by decide +kernel
theorem dX0_addNumber_10 : decode cX0_addNumber 10 = .ok (.bipush 16, 2) := by decide +kernel
theorem dX0_addNumber_12 : decode cX0_addNumber 12 = .ok (.iushr, 1) := by decide +kernel
theorem dX0_addNumber_13 : decode cX0_addNumber 13 = .ok (.invokevirtual 25, 3) := by decide +kernel
theorem dX0_addNumber_16 : decode cX0_addNumber 16 = .ok (.aload_n 0, 1) := by decide +kernel
theorem dX0_addNumber_17 : decode cX0_addNumber 17 = .ok (.iload_n 1, 1) := by decide +kernel
theorem dX0_addNumber_18 : decode cX0_addNumber 18 = .ok (.bipush 8, 2) := by decide +kernel
theorem dX0_addNumber_20 : decode cX0_addNumber 20 = .ok (.iushr, 1) := by decide +kernel
theorem dX0_addNumber_21 : decode cX0_addNumber 21 = .ok (.invokevirtual 25, 3) := by decide +kernel
theorem dX0_addNumber_24 : decode cX0_addNumber 24 = .ok (.aload_n 0, 1) := by decide +kernel
theorem dX0_addNumber_25 : decode cX0_addNumber 25 = .ok (.iload_n 1, 1) := by decide +kernel
theorem dX0_addNumber_26 : decode cX0_addNumber 26 = .ok (.invokevirtual 25, 3) := by decide +kernel
theorem dX0_addNumber_29 : decode cX0_addNumber 29 = .ok (.return_, 1) := by decide +kernel
theorem dX0_addDecimal_0 : decode cX0_addDecimal 0 = .ok (.iload_n 1, 1) := by decide +kernel
theorem dX0_addDecimal_1 : decode cX0_addDecimal 1 = .ok (.bipush 10, 2) := by decide +kernel
theorem dX0_addDecimal_3 : decode cX0_addDecimal 3 = .ok (.if_icmp .lt 17, 3) := by decide +kernel
theorem dX0_addDecimal_6 : decode cX0_addDecimal 6 = .ok (.aload_n 0, 1) := by decide +kernel
theorem dX0_addDecimal_7 : decode cX0_addDecimal 7 = .ok (.bipush 48, 2) := by decide +kernel
theorem dX0_addDecimal_9 : decode cX0_addDecimal 9 = .ok (.iload_n 1, 1) := by decide +kernel
theorem dX0_addDecimal_10 : decode cX0_addDecimal 10 = .ok (.bipush 10, 2) := by decide +kernel
theorem dX0_addDecimal_12 : decode cX0_addDecimal 12 = .ok (.idiv, 1) := by decide +kernel
theorem dX0_addDecimal_13 : decode cX0_addDecimal 13 = .ok (.bipush 10, 2) := by decide +kernel
theorem dX0_addDecimal_15 : decode cX0_addDecimal 15 = .ok (.irem, 1) := by decide +kernel
theorem dX0_addDecimal_16 : decode cX0_addDecimal 16 = .ok (.iadd, 1) := by decide +kernel
theorem dX0_addDecimal_17 : decode cX0_addDecimal 17 = .ok (.invokevirtual 25, 3) := by decide +kernel
theorem dX0_addDecimal_20 : decode cX0_addDecimal 20 = .ok (.aload_n 0, 1) := by decide +kernel
theorem dX0_addDecimal_21 : decode cX0_addDecimal 21 = .ok (.bipush 48, 2) := by decide +kernel
theorem dX0_addDecimal_23 : decode cX0_addDecimal 23 = .ok (.iload_n 1, 1) := by decide +kernel
theorem dX0_addDecimal_24 : decode cX0_addDecimal 24 = .ok (.bipush 10, 2) := by decide +kernel
theorem dX0_addDecimal_26 : decode cX0_addDecimal 26 = .ok (.irem, 1) := by decide +kernel
theorem dX0_addDecimal_27 : decode cX0_addDecimal 27 = .ok (.iadd, 1) := by decide +kernel
theorem dX0_addDecimal_28 : decode cX0_addDecimal 28 = .ok (.invokevirtual 25, 3) := by decide +kernel
theorem dX0_addDecimal_31 : decode cX0_addDecimal 31 = .ok (.return_, 1) := by decide +kernel
theorem dX0_get_0 : decode cX0_get 0 = .ok (.iload_n 1, 1) := by decide +kernel
theorem dX0_get_1 : decode cX0_get 1 = .ok (.ifCond .lt 29, 3) := by decide +kernel
theorem dX0_get_4 : decode cX0_get 4 = .ok (.iload_n 1, 1) := by decide +kernel
theorem dX0_get_5 : decode cX0_get 5 = .ok (.aload_n 0, 1) := by decide +kernel
theorem dX0_get_6 : decode cX0_get 6 = .ok (.getfield 21, 3) := by decide +kernel
theorem dX0_get_9 : decode cX0_get 9 = .ok (.if_icmp .ge 21, 3) := by decide +kernel
theorem dX0_get_12 : decode cX0_get 12 = .ok (.iload_n 1, 1) := by decide +kernel
theorem dX0_get_13 : decode cX0_get 13 = .ok (.aload_n 0, 1) := by decide +kernel
theorem dX0_get_14 : decode cX0_get 14 = .ok (.getfield 15, 3) := by decide +kernel
theorem dX0_get_17 : decode cX0_get 17 = .ok (.arraylength, 1) := by decide +kernel
theorem dX0_get_18 : decode cX0_get 18 = .ok (.if_icmp .ge 12, 3) := by decide +kernel
theorem dX0_get_21 : decode cX0_get 21 = .ok (.aload_n 0, 1) := by decide +kernel
theorem dX0_get_22 : decode cX0_get 22 = .ok (.getfield 15, 3) := by decide +kernel
theorem dX0_get_25 : decode cX0_get 25 = .ok (.iload_n 1, 1) := by decide +kernel
theorem dX0_get_26 : decode cX0_get 26 = .ok (.iaload, 1) := by decide +kernel
theorem dX0_get_27 : decode cX0_get 27 = .ok (.goto 4, 3) := by decide +kernel
theorem dX0_get_30 : decode cX0_get 30 = .ok (.iconst (-1), 1) := by decide +kernel
theorem dX0_get_31 : decode cX0_get 31 = .ok (.ireturn, 1) := by decide +kernel
theorem dX1_init_0 : decode cX1_init 0 = .ok (.aload_n 0, 1) := by decide +kernel
theorem dX1_init_1 : decode cX1_init 1 = .ok (.invokespecial 3, 3) := by decide +kernel
theorem dX1_init_4 : decode cX1_init 4 = .ok (.return_, 1) := by decide +kernel
theorem dX1_clear_0 : decode cX1_clear 0 = .ok (.aload_n 0, 1) := by decide +kernel
theorem dX1_clear_1 : decode cX1_clear 1 = .ok (.iconst 0, 1) := by decide +kernel
theorem dX1_clear_2 : decode cX1_clear 2 = .ok (.putfield 9, 3) := by decide +kernel
theorem dX1_clear_5 : decode cX1_clear 5 = .ok (.aload_n 0, 1) := by decide +kernel
theorem dX1_clear_6 : decode cX1_clear 6 = .ok (.iconst 0, 1) := by decide +kernel
theorem dX1_clear_7 : decode cX1_clear 7 = .ok (.putfield 15, 3) := by decide +kernel
theorem dX1_clear_10 : decode cX1_clear 10 = .ok (.aload_n 0, 1) := by decide +kernel
theorem dX1_clear_11 : decode cX1_clear 11 = .ok (.iconst 0, 1) := by decide +kernel
theorem dX1_clear_12 : decode cX1_clear 12 = .ok (.putfield 18, 3) := by decide +kernel
theorem dX1_clear_15 : decode cX1_clear 15 = .ok (.aload_n 0, 1) := by decide +kernel
theorem dX1_clear_16 : decode cX1_clear 16 = .ok (.iconst 0, 1) := by decide +kernel
theorem dX1_clear_17 : decode cX1_clear 17 = .ok (.putfield 21, 3) := by decide +kernel
theorem dX1_clear_20 : decode cX1_clear 20 = .ok (.return_, 1) := by decide +kernel
theorem dX1_compare_0 : decode cX1_compare 0 = .ok (.aload_n 0, 1) := by decide +kernel
theorem dX1_compare_1 : decode cX1_compare 1 = .ok (.invokevirtual 24, 3) := by decide +kernel
theorem dX1_compare_4 : decode cX1_compare 4 = .ok (.aload_n 0, 1) := by decide +kernel
theorem dX1_compare_5 : decode cX1_compare 5 = .ok (.aload_n 2, 1) := by decide +kernel
theorem dX1_compare_6 : decode cX1_compare 6 = .ok (.getfield 27, 3) := by decide +kernel
theorem dX1_compare_9 : decode cX1_compare 9 = .ok (.aload_n 1, 1) := by decide +kernel
theorem dX1_compare_10 : decode cX1_compare 10 = .ok (.getfield 27, 3) := by decide +kernel
theorem dX1_compare_13 : decode cX1_compare 13 = .ok (.iconst (-1), 1) := by decide +kernel
theorem dX1_compare_14 : decode cX1_compare 14 = .ok (.ixor, 1) := by decide +kernel
theorem dX1_compare_15 : decode cX1_compare 15 = .ok (.iand, 1) := by decide +kernel
theorem dX1_compare_16 : decode cX1_compare 16 = .ok (.putfield 9, 3) := by decide +kernel
theorem dX1_compare_19 : decode cX1_compare 19 = .ok (.aload_n 0, 1) := by decide +kernel
theorem dX1_compare_20 : decode cX1_compare 20 = .ok (.aload_n 1, 1) := by decide +kernel
theorem dX1_compare_21 : decode cX1_compare 21 = .ok (.getfield 27, 3) := by decide +kernel
theorem dX1_compare_24 : decode cX1_compare 24 = .ok (.aload_n 2, 1) := by decide +kernel
theorem dX1_compare_25 : decode cX1_compare 25 = .ok (.getfield 27, 3) := by decide +kernel
theorem dX1_compare_28 : decode cX1_compare 28 = .ok (.iconst (-1), 1) := by decide +kernel
theorem dX1_compare_29 : decode cX1_compare 29 = .ok (.ixor, 1) := by decide +kernel
theorem dX1_compare_30 : decode cX1_compare 30 = .ok (.iand, 1) := by decide +kernel
theorem dX1_compare_31 : decode cX1_compare 31 = .ok (.putfield 15, 3) := by decide +kernel
theorem dX1_compare_34 : decode cX1_compare 34 = .ok (.iconst 0, 1) := by decide +kernel
theorem dX1_compare_35 : decode cX1_compare 35 = .ok (.istore_n 3, 1) := by decide +kernel
theorem dX1_compare_36 : decode cX1_compare 36 = .ok (.iload_n 3, 1) := by decide +kernel
theorem dX1_compare_37 : decode cX1_compare 37 = .ok (.bipush 16, 2) := by decide +kernel
theorem dX1_compare_39 : decode cX1_compare 39 = .ok (.if_icmp .ge 77, 3) := by decide +kernel
theorem dX1_compare_42 : decode cX1_compare 42 = .ok (.aload_n 1, 1) := by decide +kernel
theorem dX1_compare_43 : decode cX1_compare 43 = .ok (.getfield 27, 3) := by decide +kernel
theorem dX1_compare_46 : decode cX1_compare 46 = .ok (.aload_n 2, 1) := by decide +kernel
theorem dX1_compare_47 : decode cX1_compare 47 = .ok (.getfield 27, 3) := by decide +kernel
theorem dX1_compare_50 : decode cX1_compare 50 = .ok (.iand, 1) := by decide +kernel
theorem dX1_compare_51 : decode cX1_compare 51 = .ok (.iload_n 3, 1) := by decide +kernel
theorem dX1_compare_52 : decode cX1_compare 52 = .ok (.invokestatic 32, 3) := by decide +kernel
theorem dX1_compare_55 : decode cX1_compare 55 = .ok (.ifCond .eq 55, 3) := by decide +kernel
theorem dX1_compare_58 : decode cX1_compare 58 = .ok (.aload_n 0, 1) := by decide +kernel
theorem dX1_compare_59 : decode cX1_compare 59 = .ok (.dup, 1) := by decide +kernel
theorem dX1_compare_60 : decode cX1_compare 60 = .ok (.getfield 21, 3) := by decide +kernel
theorem dX1_compare_63 : decode cX1_compare 63 = .ok (.aload_n 1, 1) := by decide +kernel
theorem dX1_compare_64 : decode cX1_compare 64 = .ok (.iload_n 3, 1) := by decide +kernel
theorem dX1_compare_65 : decode cX1_compare 65 = .ok (.invokevirtual 36, 3) := by decide +kernel
theorem dX1_compare_68 : decode cX1_compare 68 = .ok (.aload_n 2, 1) := by decide +kernel
theorem dX1_compare_69 : decode cX1_compare 69 = .ok (.iload_n 3, 1) := by decide +kernel
theorem dX1_compare_70 : decode cX1_compare 70 = .ok (.invokevirtual 36, 3) := by decide +kernel
theorem dX1_compare_73 : decode cX1_compare 73 = .ok (.isub, 1) := by decide +kernel
theorem dX1_compare_74 : decode cX1_compare 74 = .ok (.iadd, 1) := by decide +kernel
theorem dX1_compare_75 : decode cX1_compare 75 = .ok (.putfield 21, 3) := by decide +kernel
theorem dX1_compare_78 : decode cX1_compare 78 = .ok (.aload_n 1, 1) := by decide +kernel
theorem dX1_compare_79 : decode cX1_compare 79 = .ok (.getfield 40, 3) := by decide +kernel
theorem dX1_compare_82 : decode cX1_compare 82 = .ok (.iload_n 3, 1) := by decide +kernel
theorem dX1_compare_83 : decode cX1_compare 83 = .ok (.invokestatic 44, 3) := by decide +kernel
theorem dX1_compare_86 : decode cX1_compare 86 = .ok (.aload_n 2, 1) := by decide +kernel
theorem dX1_compare_87 : decode cX1_compare 87 = .ok (.getfield 40, 3) := by decide +kernel
theorem dX1_compare_90 : decode cX1_compare 90 = .ok (.iload_n 3, 1) := by decide +kernel
theorem dX1_compare_91 : decode cX1_compare 91 = .ok (.invokestatic 44, 3) := by decide +kernel
theorem dX1_compare_94 : decode cX1_compare 94 = .ok (.if_icmp .eq 16, 3) := by decide +kernel
theorem dX1_compare_97 : decode cX1_compare 97 = .ok (.aload_n 0, 1) := by decide +kernel
theorem dX1_compare_98 : decode cX1_compare 98 = .ok (.dup, 1) := by decide +kernel
theorem dX1_compare_99 : decode cX1_compare 99 = .ok (.getfield 18, 3) := by decide +kernel
theorem dX1_compare_102 : decode cX1_compare 102 = .ok (.iload_n 3, 1) := by decide +kernel
theorem dX1_compare_103 : decode cX1_compare 103 = .ok (.invokestatic 48, 3) := by decide +kernel
theorem dX1_compare_106 : decode cX1_compare 106 = .ok (.ior, 1) := by decide +kernel
theorem dX1_compare_107 : decode cX1_compare 107 = .ok (.putfield 18, 3) := by decide +kernel
theorem dX1_compare_110 : decode cX1_compare 110 = .ok (.iinc 3 1, 3) := by decide +kernel
theorem dX1_compare_113 : decode cX1_compare 113 = .ok (.goto (-77), 3) := by decide +kernel
theorem dX1_compare_116 : decode cX1_compare 116 = .ok (.return_, 1) := by decide +kernel
theorem dX2_init_0 : decode cX2_init 0 = .ok (.aload_n 0, 1) := by decide +kernel
theorem dX2_init_1 : decode cX2_init 1 = .ok (.invokespecial 3, 3) := by decide +kernel
theorem dX2_init_4 : decode cX2_init 4 = .ok (.aload_n 0, 1) := by decide +kernel
theorem dX2_init_5 : decode cX2_init 5 = .ok (.sipush 1024, 3) := by decide +kernel
theorem dX2_init_8 : decode cX2_init 8 = .ok (.newarray .int, 2) := by decide +kernel
theorem dX2_init_10 : decode cX2_init 10 = .ok (.putfield 11, 3) := by decide +kernel
theorem dX2_init_13 : decode cX2_init 13 = .ok (.aload_n 0, 1) := by decide +kernel
theorem dX2_init_14 : decode cX2_init 14 = .ok (.bipush 32, 2) := by decide +kernel
theorem dX2_init_16 : decode cX2_init 16 = .ok (.newarray .int, 2) := by decide +kernel
theorem dX2_init_18 : decode cX2_init 18 = .ok (.putfield 15, 3) := by decide +kernel
theorem dX2_init_21 : decode cX2_init 21 = .ok (.aload_n 0, 1) := by decide +kernel
theorem dX2_init_22 : decode cX2_init 22 = .ok (.bipush 32, 2) := by decide +kernel
theorem dX2_init_24 : decode cX2_init 24 = .ok (.newarray .int, 2) := by decide +kernel
theorem dX2_init_26 : decode cX2_init 26 = .ok (.putfield 18, 3) := by decide +kernel
theorem dX2_init_29 : decode cX2_init 29 = .ok (.return_, 1) := by decide +kernel
theorem dX2_clear_0 : decode cX2_clear 0 = .ok (.aload_n 0, 1) := by decide +kernel
theorem dX2_clear_1 : decode cX2_clear 1 = .ok (.getfield 11, 3) := by decide +kernel
theorem dX2_clear_4 : decode cX2_clear 4 = .ok (.iconst 0, 1) := by decide +kernel
theorem dX2_clear_5 : decode cX2_clear 5 = .ok (.invokestatic 21, 3) := by decide +kernel
theorem dX2_clear_8 : decode cX2_clear 8 = .ok (.aload_n 0, 1) := by decide +kernel
theorem dX2_clear_9 : decode cX2_clear 9 = .ok (.getfield 15, 3) := by decide +kernel
theorem dX2_clear_12 : decode cX2_clear 12 = .ok (.iconst 0, 1) := by decide +kernel
theorem dX2_clear_13 : decode cX2_clear 13 = .ok (.invokestatic 21, 3) := by decide +kernel
theorem dX2_clear_16 : decode cX2_clear 16 = .ok (.return_, 1) := by decide +kernel
theorem dX2_widen_0 : decode cX2_widen 0 = .ok (.iload_n 1, 1) := by decide +kernel
theorem dX2_widen_1 : decode cX2_widen 1 = .ok (.bipush 32, 2) := by decide +kernel
theorem dX2_widen_3 : decode cX2_widen 3 = .ok (.imul, 1) := by decide +kernel
theorem dX2_widen_4 : decode cX2_widen 4 = .ok (.iload_n 2, 1) := by decide +kernel
theorem dX2_widen_5 : decode cX2_widen 5 = .ok (.iadd, 1) := by decide +kernel
theorem dX2_widen_6 : decode cX2_widen 6 = .ok (.istore 4, 2) := by decide +kernel
theorem dX2_widen_8 : decode cX2_widen 8 = .ok (.aload_n 0, 1) := by decide +kernel
theorem dX2_widen_9 : decode cX2_widen 9 = .ok (.getfield 11, 3) := by decide +kernel
theorem dX2_widen_12 : decode cX2_widen 12 = .ok (.iload 4, 2) := by decide +kernel
theorem dX2_widen_14 : decode cX2_widen 14 = .ok (.aload_n 0, 1) := by decide +kernel
theorem dX2_widen_15 : decode cX2_widen 15 = .ok (.getfield 11, 3) := by decide +kernel
theorem dX2_widen_18 : decode cX2_widen 18 = .ok (.iload 4, 2) := by decide +kernel
theorem dX2_widen_20 : decode cX2_widen 20 = .ok (.invokestatic 27, 3) := by decide +kernel
theorem dX2_widen_23 : decode cX2_widen 23 = .ok (.iload_n 3, 1) := by decide +kernel
theorem dX2_widen_24 : decode cX2_widen 24 = .ok (.iadd, 1) := by decide +kernel
theorem dX2_widen_25 : decode cX2_widen 25 = .ok (.invokestatic 31, 3) := by decide +kernel
theorem dX2_widen_28 : decode cX2_widen 28 = .ok (.aload_n 0, 1) := by decide +kernel
theorem dX2_widen_29 : decode cX2_widen 29 = .ok (.getfield 15, 3) := by decide +kernel
theorem dX2_widen_32 : decode cX2_widen 32 = .ok (.iload_n 1, 1) := by decide +kernel
theorem dX2_widen_33 : decode cX2_widen 33 = .ok (.invokestatic 27, 3) := by decide +kernel
theorem dX2_widen_36 : decode cX2_widen 36 = .ok (.iload_n 2, 1) := by decide +kernel
theorem dX2_widen_37 : decode cX2_widen 37 = .ok (.invokestatic 35, 3) := by decide +kernel
theorem dX2_widen_40 : decode cX2_widen 40 = .ok (.iconst (-1), 1) := by decide +kernel
theorem dX2_widen_41 : decode cX2_widen 41 = .ok (.ixor, 1) := by decide +kernel
theorem dX2_widen_42 : decode cX2_widen 42 = .ok (.iand, 1) := by decide +kernel
theorem dX2_widen_43 : decode cX2_widen 43 = .ok (.istore 5, 2) := by decide +kernel
theorem dX2_widen_45 : decode cX2_widen 45 = .ok (.aload_n 0, 1) := by decide +kernel
theorem dX2_widen_46 : decode cX2_widen 46 = .ok (.getfield 15, 3) := by decide +kernel
theorem dX2_widen_49 : decode cX2_widen 49 = .ok (.iload_n 1, 1) := by decide +kernel
theorem dX2_widen_50 : decode cX2_widen 50 = .ok (.aload_n 0, 1) := by decide +kernel
theorem dX2_widen_51 : decode cX2_widen 51 = .ok (.getfield 11, 3) := by decide +kernel
theorem dX2_widen_54 : decode cX2_widen 54 = .ok (.iload 4, 2) := by decide +kernel
theorem dX2_widen_56 : decode cX2_widen 56 = .ok (.invokestatic 27, 3) := by decide +kernel
theorem dX2_widen_59 : decode cX2_widen 59 = .ok (.ifCond .le 13, 3) := by decide +kernel
theorem dX2_widen_62 : decode cX2_widen 62 = .ok (.iload 5, 2) := by decide +kernel
theorem dX2_widen_64 : decode cX2_widen 64 = .ok (.iload_n 2, 1) := by decide +kernel
theorem dX2_widen_65 : decode cX2_widen 65 = .ok (.invokestatic 35, 3) := by decide +kernel
theorem dX2_widen_68 : decode cX2_widen 68 = .ok (.ior, 1) := by decide +kernel
theorem dX2_widen_69 : decode cX2_widen 69 = .ok (.goto 5, 3) := by decide +kernel
theorem dX2_widen_72 : decode cX2_widen 72 = .ok (.iload 5, 2) := by decide +kernel
theorem dX2_widen_74 : decode cX2_widen 74 = .ok (.invokestatic 31, 3) := by decide +kernel
theorem dX2_widen_77 : decode cX2_widen 77 = .ok (.return_, 1) := by decide +kernel
theorem dX2_most_0 : decode cX2_most 0 = .ok (.iconst 0, 1) := by decide +kernel
theorem dX2_most_1 : decode cX2_most 1 = .ok (.istore_n 3, 1) := by decide +kernel
theorem dX2_most_2 : decode cX2_most 2 = .ok (.iload_n 3, 1) := by decide +kernel
theorem dX2_most_3 : decode cX2_most 3 = .ok (.bipush 60, 2) := by decide +kernel
theorem dX2_most_5 : decode cX2_most 5 = .ok (.if_icmp .ge 26, 3) := by decide +kernel
theorem dX2_most_8 : decode cX2_most 8 = .ok (.aload_n 0, 1) := by decide +kernel
theorem dX2_most_9 : decode cX2_most 9 = .ok (.iload_n 1, 1) := by decide +kernel
theorem dX2_most_10 : decode cX2_most 10 = .ok (.iload_n 2, 1) := by decide +kernel
theorem dX2_most_11 : decode cX2_most 11 = .ok (.invokevirtual 39, 3) := by decide +kernel
theorem dX2_most_14 : decode cX2_most 14 = .ok (.ifCond .ne 5, 3) := by decide +kernel
theorem dX2_most_17 : decode cX2_most 17 = .ok (.iload_n 3, 1) := by decide +kernel
theorem dX2_most_18 : decode cX2_most 18 = .ok (.ireturn, 1) := by decide +kernel
theorem dX2_most_19 : decode cX2_most 19 = .ok (.aload_n 0, 1) := by decide +kernel
theorem dX2_most_20 : decode cX2_most 20 = .ok (.iload_n 1, 1) := by decide +kernel
theorem dX2_most_21 : decode cX2_most 21 = .ok (.iload_n 2, 1) := by decide +kernel
theorem dX2_most_22 : decode cX2_most 22 = .ok (.invokevirtual 43, 3) := by decide +kernel
theorem dX2_most_25 : decode cX2_most 25 = .ok (.iinc 3 1, 3) := by decide +kernel
theorem dX2_most_28 : decode cX2_most 28 = .ok (.goto (-26), 3) := by decide +kernel
theorem dX2_most_31 : decode cX2_most 31 = .ok (.bipush 60, 2) := by decide +kernel
theorem dX2_most_33 : decode cX2_most 33 = .ok (.ireturn, 1) := by decide +kernel
theorem dX2_isFound_0 : decode cX2_isFound 0 = .ok (.iload_n 1, 1) := by decide +kernel
theorem dX2_isFound_1 : decode cX2_isFound 1 = .ok (.invokestatic 35, 3) := by decide +kernel
theorem dX2_isFound_4 : decode cX2_isFound 4 = .ok (.istore_n 3, 1) := by decide +kernel
theorem dX2_isFound_5 : decode cX2_isFound 5 = .ok (.iload_n 3, 1) := by decide +kernel
theorem dX2_isFound_6 : decode cX2_isFound 6 = .ok (.istore 4, 2) := by decide +kernel
theorem dX2_isFound_8 : decode cX2_isFound 8 = .ok (.iconst 0, 1) := by decide +kernel
theorem dX2_isFound_9 : decode cX2_isFound 9 = .ok (.istore 5, 2) := by decide +kernel
theorem dX2_isFound_11 : decode cX2_isFound 11 = .ok (.iload 5, 2) := by decide +kernel
theorem dX2_isFound_13 : decode cX2_isFound 13 = .ok (.bipush 32, 2) := by decide +kernel
theorem dX2_isFound_15 : decode cX2_isFound 15 = .ok (.if_icmp .ge 93, 3) := by decide +kernel
theorem dX2_isFound_18 : decode cX2_isFound 18 = .ok (.iload 4, 2) := by decide +kernel
theorem dX2_isFound_20 : decode cX2_isFound 20 = .ok (.ifCond .eq 88, 3) := by decide +kernel
theorem dX2_isFound_23 : decode cX2_isFound 23 = .ok (.iload 4, 2) := by decide +kernel
theorem dX2_isFound_25 : decode cX2_isFound 25 = .ok (.invokestatic 47, 3) := by decide +kernel
theorem dX2_isFound_28 : decode cX2_isFound 28 = .ok (.istore 6, 2) := by decide +kernel
theorem dX2_isFound_30 : decode cX2_isFound 30 = .ok (.aload_n 0, 1) := by decide +kernel
theorem dX2_isFound_31 : decode cX2_isFound 31 = .ok (.getfield 15, 3) := by decide +kernel
theorem dX2_isFound_34 : decode cX2_isFound 34 = .ok (.iload 6, 2) := by decide +kernel
theorem dX2_isFound_36 : decode cX2_isFound 36 = .ok (.invokestatic 27, 3) := by decide +kernel
theorem dX2_isFound_39 : decode cX2_isFound 39 = .ok (.iload_n 3, 1) := by decide +kernel
theorem dX2_isFound_40 : decode cX2_isFound 40 = .ok (.iconst (-1), 1) := by decide +kernel
theorem dX2_isFound_41 : decode cX2_isFound 41 = .ok (.ixor, 1) := by decide +kernel
theorem dX2_isFound_42 : decode cX2_isFound 42 = .ok (.iand, 1) := by decide +kernel
theorem dX2_isFound_43 : decode cX2_isFound 43 = .ok (.istore 7, 2) := by decide +kernel
theorem dX2_isFound_45 : decode cX2_isFound 45 = .ok (.iconst 0, 1) := by decide +kernel
theorem dX2_isFound_46 : decode cX2_isFound 46 = .ok (.istore 8, 2) := by decide +kernel
theorem dX2_isFound_48 : decode cX2_isFound 48 = .ok (.iload 8, 2) := by decide +kernel
theorem dX2_isFound_50 : decode cX2_isFound 50 = .ok (.bipush 32, 2) := by decide +kernel
theorem dX2_isFound_52 : decode cX2_isFound 52 = .ok (.if_icmp .ge 35, 3) := by decide +kernel
theorem dX2_isFound_55 : decode cX2_isFound 55 = .ok (.iload 7, 2) := by decide +kernel
theorem dX2_isFound_57 : decode cX2_isFound 57 = .ok (.ifCond .eq 30, 3) := by decide +kernel
theorem dX2_isFound_60 : decode cX2_isFound 60 = .ok (.iload 7, 2) := by decide +kernel
theorem dX2_isFound_62 : decode cX2_isFound 62 = .ok (.iload 8, 2) := by decide +kernel
theorem dX2_isFound_64 : decode cX2_isFound 64 = .ok (.invokestatic 50, 3) := by decide +kernel
theorem dX2_isFound_67 : decode cX2_isFound 67 = .ok (.ifCond .eq 14, 3) := by decide +kernel
theorem dX2_isFound_70 : decode cX2_isFound 70 = .ok (.aload_n 0, 1) := by decide +kernel
theorem dX2_isFound_71 : decode cX2_isFound 71 = .ok (.getfield 18, 3) := by decide +kernel
theorem dX2_isFound_74 : decode cX2_isFound 74 = .ok (.iload 8, 2) := by decide +kernel
theorem dX2_isFound_76 : decode cX2_isFound 76 = .ok (.iload 6, 2) := by decide +kernel
theorem dX2_isFound_78 : decode cX2_isFound 78 = .ok (.invokestatic 31, 3) := by decide +kernel
theorem dX2_isFound_81 : decode cX2_isFound 81 = .ok (.iinc 8 1, 3) := by decide +kernel
theorem dX2_isFound_84 : decode cX2_isFound 84 = .ok (.goto (-36), 3) := by decide +kernel
theorem dX2_isFound_87 : decode cX2_isFound 87 = .ok (.iload_n 3, 1) := by decide +kernel
theorem dX2_isFound_88 : decode cX2_isFound 88 = .ok (.iload 7, 2) := by decide +kernel
theorem dX2_isFound_90 : decode cX2_isFound 90 = .ok (.ior, 1) := by decide +kernel
theorem dX2_isFound_91 : decode cX2_isFound 91 = .ok (.istore_n 3, 1) := by decide +kernel
theorem dX2_isFound_92 : decode cX2_isFound 92 = .ok (.iload 4, 2) := by decide +kernel
theorem dX2_isFound_94 : decode cX2_isFound 94 = .ok (.invokestatic 53, 3) := by decide +kernel
theorem dX2_isFound_97 : decode cX2_isFound 97 = .ok (.iload 7, 2) := by decide +kernel
theorem dX2_isFound_99 : decode cX2_isFound 99 = .ok (.ior, 1) := by decide +kernel
theorem dX2_isFound_100 : decode cX2_isFound 100 = .ok (.istore 4, 2) := by decide +kernel
theorem dX2_isFound_102 : decode cX2_isFound 102 = .ok (.iinc 5 1, 3) := by decide +kernel
theorem dX2_isFound_105 : decode cX2_isFound 105 = .ok (.goto (-94), 3) := by decide +kernel
theorem dX2_isFound_108 : decode cX2_isFound 108 = .ok (.iload_n 3, 1) := by decide +kernel
theorem dX2_isFound_109 : decode cX2_isFound 109 = .ok (.iload_n 2, 1) := by decide +kernel
theorem dX2_isFound_110 : decode cX2_isFound 110 = .ok (.invokestatic 50, 3) := by decide +kernel
theorem dX2_isFound_113 : decode cX2_isFound 113 = .ok (.ireturn, 1) := by decide +kernel
theorem dX2_fillWay_0 : decode cX2_fillWay 0 = .ok (.iload_n 2, 1) := by decide +kernel
theorem dX2_fillWay_1 : decode cX2_fillWay 1 = .ok (.istore_n 3, 1) := by decide +kernel
theorem dX2_fillWay_2 : decode cX2_fillWay 2 = .ok (.iconst 0, 1) := by decide +kernel
theorem dX2_fillWay_3 : decode cX2_fillWay 3 = .ok (.istore 4, 2) := by decide +kernel
theorem dX2_fillWay_5 : decode cX2_fillWay 5 = .ok (.iload 4, 2) := by decide +kernel
theorem dX2_fillWay_7 : decode cX2_fillWay 7 = .ok (.bipush 32, 2) := by decide +kernel
theorem dX2_fillWay_9 : decode cX2_fillWay 9 = .ok (.if_icmp .ge 43, 3) := by decide +kernel
theorem dX2_fillWay_12 : decode cX2_fillWay 12 = .ok (.iload_n 3, 1) := by decide +kernel
theorem dX2_fillWay_13 : decode cX2_fillWay 13 = .ok (.iload_n 1, 1) := by decide +kernel
theorem dX2_fillWay_14 : decode cX2_fillWay 14 = .ok (.if_icmp .eq 38, 3) := by decide +kernel
theorem dX2_fillWay_17 : decode cX2_fillWay 17 = .ok (.aload_n 0, 1) := by decide +kernel
theorem dX2_fillWay_18 : decode cX2_fillWay 18 = .ok (.getfield 18, 3) := by decide +kernel
theorem dX2_fillWay_21 : decode cX2_fillWay 21 = .ok (.iload_n 3, 1) := by decide +kernel
theorem dX2_fillWay_22 : decode cX2_fillWay 22 = .ok (.invokestatic 27, 3) := by decide +kernel
theorem dX2_fillWay_25 : decode cX2_fillWay 25 = .ok (.istore 5, 2) := by decide +kernel
theorem dX2_fillWay_27 : decode cX2_fillWay 27 = .ok (.aload_n 0, 1) := by decide +kernel
theorem dX2_fillWay_28 : decode cX2_fillWay 28 = .ok (.iload 5, 2) := by decide +kernel
theorem dX2_fillWay_30 : decode cX2_fillWay 30 = .ok (.iload_n 3, 1) := by decide +kernel
theorem dX2_fillWay_31 : decode cX2_fillWay 31 = .ok (.iconst (-1), 1) := by decide +kernel
theorem dX2_fillWay_32 : decode cX2_fillWay 32 = .ok (.invokevirtual 56, 3) := by decide +kernel
theorem dX2_fillWay_35 : decode cX2_fillWay 35 = .ok (.aload_n 0, 1) := by decide +kernel
theorem dX2_fillWay_36 : decode cX2_fillWay 36 = .ok (.iload_n 3, 1) := by decide +kernel
theorem dX2_fillWay_37 : decode cX2_fillWay 37 = .ok (.iload 5, 2) := by decide +kernel
theorem dX2_fillWay_39 : decode cX2_fillWay 39 = .ok (.iconst 1, 1) := by decide +kernel
theorem dX2_fillWay_40 : decode cX2_fillWay 40 = .ok (.invokevirtual 56, 3) := by decide +kernel
theorem dX2_fillWay_43 : decode cX2_fillWay 43 = .ok (.iload 5, 2) := by decide +kernel
theorem dX2_fillWay_45 : decode cX2_fillWay 45 = .ok (.istore_n 3, 1) := by decide +kernel
theorem dX2_fillWay_46 : decode cX2_fillWay 46 = .ok (.iinc 4 1, 3) := by decide +kernel
theorem dX2_fillWay_49 : decode cX2_fillWay 49 = .ok (.goto (-44), 3) := by decide +kernel
theorem dX2_fillWay_52 : decode cX2_fillWay 52 = .ok (.return_, 1) := by decide +kernel
theorem dX3_init_0 : decode cX3_init 0 = .ok (.aload_n 0, 1) := by decide +kernel
theorem dX3_init_1 : decode cX3_init 1 = .ok (.invokespecial 3, 3) := by decide +kernel
theorem dX3_init_4 : decode cX3_init 4 = .ok (.aload_n 0, 1) := by decide +kernel
theorem dX3_init_5 : decode cX3_init 5 = .ok (.bipush 16, 2) := by decide +kernel
theorem dX3_init_7 : decode cX3_init 7 = .ok (.newarray .int, 2) := by decide +kernel
theorem dX3_init_9 : decode cX3_init 9 = .ok (.putfield 9, 3) := by decide +kernel
theorem dX3_init_12 : decode cX3_init 12 = .ok (.aload_n 0, 1) := by decide +kernel
theorem dX3_init_13 : decode cX3_init 13 = .ok (.bipush 16, 2) := by decide +kernel
theorem dX3_init_15 : decode cX3_init 15 = .ok (.newarray .int, 2) := by decide +kernel
theorem dX3_init_17 : decode cX3_init 17 = .ok (.putfield 15, 3) := by decide +kernel
theorem dX3_init_20 : decode cX3_init 20 = .ok (.aload_n 0, 1) := by decide +kernel
theorem dX3_init_21 : decode cX3_init 21 = .ok (.bipush 16, 2) := by decide +kernel
theorem dX3_init_23 : decode cX3_init 23 = .ok (.newarray .int, 2) := by decide +kernel
theorem dX3_init_25 : decode cX3_init 25 = .ok (.putfield 18, 3) := by decide +kernel
theorem dX3_init_28 : decode cX3_init 28 = .ok (.aload_n 0, 1) := by decide +kernel
theorem dX3_init_29 : decode cX3_init 29 = .ok (.bipush 16, 2) := by decide +kernel
theorem dX3_init_31 : decode cX3_init 31 = .ok (.newarray .int, 2) := by decide +kernel
theorem dX3_init_33 : decode cX3_init 33 = .ok (.putfield 21, 3) := by decide +kernel
theorem dX3_init_36 : decode cX3_init 36 = .ok (.return_, 1) := by decide +kernel
theorem dX3_weigh_0 : decode cX3_weigh 0 = .ok (.aload_n 0, 1) := by decide +kernel
theorem dX3_weigh_1 : decode cX3_weigh 1 = .ok (.aload_n 0, 1) := by decide +kernel
theorem dX3_weigh_2 : decode cX3_weigh 2 = .ok (.getfield 9, 3) := by decide +kernel
theorem dX3_weigh_5 : decode cX3_weigh 5 = .ok (.iload_n 1, 1) := by decide +kernel
theorem dX3_weigh_6 : decode cX3_weigh 6 = .ok (.iconst 0, 1) := by decide +kernel
theorem dX3_weigh_7 : decode cX3_weigh 7 = .ok (.invokestatic 24, 3) := by decide +kernel
theorem dX3_weigh_10 : decode cX3_weigh 10 = .ok (.putfield 28, 3) := by decide +kernel
theorem dX3_weigh_13 : decode cX3_weigh 13 = .ok (.aload_n 0, 1) := by decide +kernel
theorem dX3_weigh_14 : decode cX3_weigh 14 = .ok (.getfield 15, 3) := by decide +kernel
theorem dX3_weigh_17 : decode cX3_weigh 17 = .ok (.iconst 0, 1) := by decide +kernel
theorem dX3_weigh_18 : decode cX3_weigh 18 = .ok (.invokestatic 32, 3) := by decide +kernel
theorem dX3_weigh_21 : decode cX3_weigh 21 = .ok (.iconst 0, 1) := by decide +kernel
theorem dX3_weigh_22 : decode cX3_weigh 22 = .ok (.istore_n 2, 1) := by decide +kernel
theorem dX3_weigh_23 : decode cX3_weigh 23 = .ok (.iload_n 2, 1) := by decide +kernel
theorem dX3_weigh_24 : decode cX3_weigh 24 = .ok (.bipush 16, 2) := by decide +kernel
theorem dX3_weigh_26 : decode cX3_weigh 26 = .ok (.if_icmp .ge 64, 3) := by decide +kernel
theorem dX3_weigh_29 : decode cX3_weigh 29 = .ok (.iconst 0, 1) := by decide +kernel
theorem dX3_weigh_30 : decode cX3_weigh 30 = .ok (.istore_n 3, 1) := by decide +kernel
theorem dX3_weigh_31 : decode cX3_weigh 31 = .ok (.aload_n 0, 1) := by decide +kernel
theorem dX3_weigh_32 : decode cX3_weigh 32 = .ok (.getfield 28, 3) := by decide +kernel
theorem dX3_weigh_35 : decode cX3_weigh 35 = .ok (.iload_n 2, 1) := by decide +kernel
theorem dX3_weigh_36 : decode cX3_weigh 36 = .ok (.invokestatic 38, 3) := by decide +kernel
theorem dX3_weigh_39 : decode cX3_weigh 39 = .ok (.ifCond .eq 30, 3) := by decide +kernel
theorem dX3_weigh_42 : decode cX3_weigh 42 = .ok (.aload_n 0, 1) := by decide +kernel
theorem dX3_weigh_43 : decode cX3_weigh 43 = .ok (.getfield 28, 3) := by decide +kernel
theorem dX3_weigh_46 : decode cX3_weigh 46 = .ok (.iload_n 2, 1) := by decide +kernel
theorem dX3_weigh_47 : decode cX3_weigh 47 = .ok (.invokestatic 42, 3) := by decide +kernel
theorem dX3_weigh_50 : decode cX3_weigh 50 = .ok (.iconst (-1), 1) := by decide +kernel
theorem dX3_weigh_51 : decode cX3_weigh 51 = .ok (.ixor, 1) := by decide +kernel
theorem dX3_weigh_52 : decode cX3_weigh 52 = .ok (.iand, 1) := by decide +kernel
theorem dX3_weigh_53 : decode cX3_weigh 53 = .ok (.aload_n 0, 1) := by decide +kernel
theorem dX3_weigh_54 : decode cX3_weigh 54 = .ok (.getfield 9, 3) := by decide +kernel
theorem dX3_weigh_57 : decode cX3_weigh 57 = .ok (.iload_n 1, 1) := by decide +kernel
theorem dX3_weigh_58 : decode cX3_weigh 58 = .ok (.iload_n 2, 1) := by decide +kernel
theorem dX3_weigh_59 : decode cX3_weigh 59 = .ok (.invokestatic 42, 3) := by decide +kernel
theorem dX3_weigh_62 : decode cX3_weigh 62 = .ok (.invokestatic 24, 3) := by decide +kernel
theorem dX3_weigh_65 : decode cX3_weigh 65 = .ok (.iconst (-1), 1) := by decide +kernel
theorem dX3_weigh_66 : decode cX3_weigh 66 = .ok (.ixor, 1) := by decide +kernel
theorem dX3_weigh_67 : decode cX3_weigh 67 = .ok (.iand, 1) := by decide +kernel
theorem dX3_weigh_68 : decode cX3_weigh 68 = .ok (.istore_n 3, 1) := by decide +kernel
theorem dX3_weigh_69 : decode cX3_weigh 69 = .ok (.aload_n 0, 1) := by decide +kernel
theorem dX3_weigh_70 : decode cX3_weigh 70 = .ok (.getfield 18, 3) := by decide +kernel
theorem dX3_weigh_73 : decode cX3_weigh 73 = .ok (.iload_n 2, 1) := by decide +kernel
theorem dX3_weigh_74 : decode cX3_weigh 74 = .ok (.iload_n 3, 1) := by decide +kernel
theorem dX3_weigh_75 : decode cX3_weigh 75 = .ok (.invokestatic 46, 3) := by decide +kernel
theorem dX3_weigh_78 : decode cX3_weigh 78 = .ok (.aload_n 0, 1) := by decide +kernel
theorem dX3_weigh_79 : decode cX3_weigh 79 = .ok (.iload_n 2, 1) := by decide +kernel
theorem dX3_weigh_80 : decode cX3_weigh 80 = .ok (.iload_n 3, 1) := by decide +kernel
theorem dX3_weigh_81 : decode cX3_weigh 81 = .ok (.invokevirtual 50, 3) := by decide +kernel
theorem dX3_weigh_84 : decode cX3_weigh 84 = .ok (.iinc 2 1, 3) := by decide +kernel
theorem dX3_weigh_87 : decode cX3_weigh 87 = .ok (.goto (-64), 3) := by decide +kernel
theorem dX3_weigh_90 : decode cX3_weigh 90 = .ok (.iconst 0, 1) := by decide +kernel
theorem dX3_weigh_91 : decode cX3_weigh 91 = .ok (.istore_n 2, 1) := by decide +kernel
theorem dX3_weigh_92 : decode cX3_weigh 92 = .ok (.iload_n 2, 1) := by decide +kernel
theorem dX3_weigh_93 : decode cX3_weigh 93 = .ok (.bipush 16, 2) := by decide +kernel
theorem dX3_weigh_95 : decode cX3_weigh 95 = .ok (.if_icmp .ge 29, 3) := by decide +kernel
theorem dX3_weigh_98 : decode cX3_weigh 98 = .ok (.aload_n 0, 1) := by decide +kernel
theorem dX3_weigh_99 : decode cX3_weigh 99 = .ok (.getfield 21, 3) := by decide +kernel
theorem dX3_weigh_102 : decode cX3_weigh 102 = .ok (.iload_n 2, 1) := by decide +kernel
theorem dX3_weigh_103 : decode cX3_weigh 103 = .ok (.aload_n 0, 1) := by decide +kernel
theorem dX3_weigh_104 : decode cX3_weigh 104 = .ok (.aload_n 0, 1) := by decide +kernel
theorem dX3_weigh_105 : decode cX3_weigh 105 = .ok (.getfield 15, 3) := by decide +kernel
theorem dX3_weigh_108 : decode cX3_weigh 108 = .ok (.iload_n 2, 1) := by decide +kernel
theorem dX3_weigh_109 : decode cX3_weigh 109 = .ok (.invokestatic 54, 3) := by decide +kernel
theorem dX3_weigh_112 : decode cX3_weigh 112 = .ok (.invokevirtual 58, 3) := by decide +kernel
theorem dX3_weigh_115 : decode cX3_weigh 115 = .ok (.invokestatic 46, 3) := by decide +kernel
theorem dX3_weigh_118 : decode cX3_weigh 118 = .ok (.iinc 2 1, 3) := by decide +kernel
theorem dX3_weigh_121 : decode cX3_weigh 121 = .ok (.goto (-29), 3) := by decide +kernel
theorem dX3_weigh_124 : decode cX3_weigh 124 = .ok (.return_, 1) := by decide +kernel
theorem dX3_addGate_0 : decode cX3_addGate 0 = .ok (.iconst 0, 1) := by decide +kernel
theorem dX3_addGate_1 : decode cX3_addGate 1 = .ok (.istore_n 3, 1) := by decide +kernel
theorem dX3_addGate_2 : decode cX3_addGate 2 = .ok (.iload_n 3, 1) := by decide +kernel
theorem dX3_addGate_3 : decode cX3_addGate 3 = .ok (.bipush 16, 2) := by decide +kernel
theorem dX3_addGate_5 : decode cX3_addGate 5 = .ok (.if_icmp .ge 42, 3) := by decide +kernel
theorem dX3_addGate_8 : decode cX3_addGate 8 = .ok (.iload_n 2, 1) := by decide +kernel
theorem dX3_addGate_9 : decode cX3_addGate 9 = .ok (.ifCond .eq 38, 3) := by decide +kernel
theorem dX3_addGate_12 : decode cX3_addGate 12 = .ok (.iload_n 2, 1) := by decide +kernel
theorem dX3_addGate_13 : decode cX3_addGate 13 = .ok (.iload_n 3, 1) := by decide +kernel
theorem dX3_addGate_14 : decode cX3_addGate 14 = .ok (.invokestatic 38, 3) := by decide +kernel
theorem dX3_addGate_17 : decode cX3_addGate 17 = .ok (.ifCond .eq 24, 3) := by decide +kernel
theorem dX3_addGate_20 : decode cX3_addGate 20 = .ok (.aload_n 0, 1) := by decide +kernel
theorem dX3_addGate_21 : decode cX3_addGate 21 = .ok (.getfield 15, 3) := by decide +kernel
theorem dX3_addGate_24 : decode cX3_addGate 24 = .ok (.iload_n 3, 1) := by decide +kernel
theorem dX3_addGate_25 : decode cX3_addGate 25 = .ok (.aload_n 0, 1) := by decide +kernel
theorem dX3_addGate_26 : decode cX3_addGate 26 = .ok (.getfield 15, 3) := by decide +kernel
theorem dX3_addGate_29 : decode cX3_addGate 29 = .ok (.iload_n 3, 1) := by decide +kernel
theorem dX3_addGate_30 : decode cX3_addGate 30 = .ok (.invokestatic 54, 3) := by decide +kernel
theorem dX3_addGate_33 : decode cX3_addGate 33 = .ok (.iload_n 1, 1) := by decide +kernel
theorem dX3_addGate_34 : decode cX3_addGate 34 = .ok (.invokestatic 42, 3) := by decide +kernel
theorem dX3_addGate_37 : decode cX3_addGate 37 = .ok (.ior, 1) := by decide +kernel
theorem dX3_addGate_38 : decode cX3_addGate 38 = .ok (.invokestatic 46, 3) := by decide +kernel
theorem dX3_addGate_41 : decode cX3_addGate 41 = .ok (.iinc 3 1, 3) := by decide +kernel
theorem dX3_addGate_44 : decode cX3_addGate 44 = .ok (.goto (-42), 3) := by decide +kernel
theorem dX3_addGate_47 : decode cX3_addGate 47 = .ok (.return_, 1) := by decide +kernel
theorem dX3_depth_0 : decode cX3_depth 0 = .ok (.aload_n 0, 1) := by decide +kernel
theorem dX3_depth_1 : decode cX3_depth 1 = .ok (.getfield 28, 3) := by decide +kernel
theorem dX3_depth_4 : decode cX3_depth 4 = .ok (.iload_n 1, 1) := by decide +kernel
theorem dX3_depth_5 : decode cX3_depth 5 = .ok (.invokestatic 38, 3) := by decide +kernel
theorem dX3_depth_8 : decode cX3_depth 8 = .ok (.ifCond .eq 17, 3) := by decide +kernel
theorem dX3_depth_11 : decode cX3_depth 11 = .ok (.aload_n 0, 1) := by decide +kernel
theorem dX3_depth_12 : decode cX3_depth 12 = .ok (.getfield 15, 3) := by decide +kernel
theorem dX3_depth_15 : decode cX3_depth 15 = .ok (.iload_n 1, 1) := by decide +kernel
theorem dX3_depth_16 : decode cX3_depth 16 = .ok (.invokestatic 54, 3) := by decide +kernel
theorem dX3_depth_19 : decode cX3_depth 19 = .ok (.invokestatic 61, 3) := by decide +kernel
theorem dX3_depth_22 : decode cX3_depth 22 = .ok (.goto 4, 3) := by decide +kernel
theorem dX3_depth_25 : decode cX3_depth 25 = .ok (.iconst (-1), 1) := by decide +kernel
theorem dX3_depth_26 : decode cX3_depth 26 = .ok (.ireturn, 1) := by decide +kernel
theorem dX3_deepest_0 : decode cX3_deepest 0 = .ok (.iconst (-1), 1) := by decide +kernel
theorem dX3_deepest_1 : decode cX3_deepest 1 = .ok (.istore_n 2, 1) := by decide +kernel
theorem dX3_deepest_2 : decode cX3_deepest 2 = .ok (.iconst (-1), 1) := by decide +kernel
theorem dX3_deepest_3 : decode cX3_deepest 3 = .ok (.istore_n 3, 1) := by decide +kernel
theorem dX3_deepest_4 : decode cX3_deepest 4 = .ok (.iconst 0, 1) := by decide +kernel
theorem dX3_deepest_5 : decode cX3_deepest 5 = .ok (.istore 4, 2) := by decide +kernel
theorem dX3_deepest_7 : decode cX3_deepest 7 = .ok (.iload 4, 2) := by decide +kernel
theorem dX3_deepest_9 : decode cX3_deepest 9 = .ok (.bipush 16, 2) := by decide +kernel
theorem dX3_deepest_11 : decode cX3_deepest 11 = .ok (.if_icmp .ge 48, 3) := by decide +kernel
theorem dX3_deepest_14 : decode cX3_deepest 14 = .ok (.iload_n 1, 1) := by decide +kernel
theorem dX3_deepest_15 : decode cX3_deepest 15 = .ok (.ifCond .eq 44, 3) := by decide +kernel
theorem dX3_deepest_18 : decode cX3_deepest 18 = .ok (.aload_n 0, 1) := by decide +kernel
theorem dX3_deepest_19 : decode cX3_deepest 19 = .ok (.getfield 15, 3) := by decide +kernel
theorem dX3_deepest_22 : decode cX3_deepest 22 = .ok (.iload 4, 2) := by decide +kernel
theorem dX3_deepest_24 : decode cX3_deepest 24 = .ok (.invokestatic 54, 3) := by decide +kernel
theorem dX3_deepest_27 : decode cX3_deepest 27 = .ok (.invokestatic 61, 3) := by decide +kernel
theorem dX3_deepest_30 : decode cX3_deepest 30 = .ok (.istore 5, 2) := by decide +kernel
theorem dX3_deepest_32 : decode cX3_deepest 32 = .ok (.iload_n 1, 1) := by decide +kernel
theorem dX3_deepest_33 : decode cX3_deepest 33 = .ok (.iload 4, 2) := by decide +kernel
theorem dX3_deepest_35 : decode cX3_deepest 35 = .ok (.invokestatic 38, 3) := by decide +kernel
theorem dX3_deepest_38 : decode cX3_deepest 38 = .ok (.ifCond .eq 15, 3) := by decide +kernel
theorem dX3_deepest_41 : decode cX3_deepest 41 = .ok (.iload 5, 2) := by decide +kernel
theorem dX3_deepest_43 : decode cX3_deepest 43 = .ok (.iload_n 3, 1) := by decide +kernel
theorem dX3_deepest_44 : decode cX3_deepest 44 = .ok (.if_icmp .le 9, 3) := by decide +kernel
theorem dX3_deepest_47 : decode cX3_deepest 47 = .ok (.iload 5, 2) := by decide +kernel
theorem dX3_deepest_49 : decode cX3_deepest 49 = .ok (.istore_n 3, 1) := by decide +kernel
theorem dX3_deepest_50 : decode cX3_deepest 50 = .ok (.iload 4, 2) := by decide +kernel
theorem dX3_deepest_52 : decode cX3_deepest 52 = .ok (.istore_n 2, 1) := by decide +kernel
theorem dX3_deepest_53 : decode cX3_deepest 53 = .ok (.iinc 4 1, 3) := by decide +kernel
theorem dX3_deepest_56 : decode cX3_deepest 56 = .ok (.goto (-49), 3) := by decide +kernel
theorem dX3_deepest_59 : decode cX3_deepest 59 = .ok (.iload_n 2, 1) := by decide +kernel
theorem dX3_deepest_60 : decode cX3_deepest 60 = .ok (.ireturn, 1) := by decide +kernel
theorem dX3_deepestDepth_0 : decode cX3_deepestDepth 0 = .ok (.iconst 0, 1) := by decide +kernel
theorem dX3_deepestDepth_1 : decode cX3_deepestDepth 1 = .ok (.aload_n 0, 1) := by decide +kernel
theorem dX3_deepestDepth_2 : decode cX3_deepestDepth 2 = .ok (.aload_n 0, 1) := by decide +kernel
theorem dX3_deepestDepth_3 : decode cX3_deepestDepth 3 = .ok (.aload_n 0, 1) := by decide +kernel
theorem dX3_deepestDepth_4 : decode cX3_deepestDepth 4 = .ok (.getfield 28, 3) := by decide +kernel
theorem dX3_deepestDepth_7 : decode cX3_deepestDepth 7 = .ok (.invokevirtual 58, 3) := by decide +kernel
theorem dX3_deepestDepth_10 : decode cX3_deepestDepth 10 = .ok (.invokevirtual 66, 3) := by decide +kernel
theorem dX3_deepestDepth_13 : decode cX3_deepestDepth 13 = .ok (.invokestatic 69, 3) := by decide +kernel
theorem dX3_deepestDepth_16 : decode cX3_deepestDepth 16 = .ok (.ireturn, 1) := by decide +kernel
theorem dX3_allDepths_0 : decode cX3_allDepths 0 = .ok (.iconst 0, 1) := by decide +kernel
theorem dX3_allDepths_1 : decode cX3_allDepths 1 = .ok (.istore_n 1, 1) := by decide +kernel
theorem dX3_allDepths_2 : decode cX3_allDepths 2 = .ok (.iconst 0, 1) := by decide +kernel
theorem dX3_allDepths_3 : decode cX3_allDepths 3 = .ok (.istore_n 2, 1) := by decide +kernel
theorem dX3_allDepths_4 : decode cX3_allDepths 4 = .ok (.iload_n 2, 1) := by decide +kernel
theorem dX3_allDepths_5 : decode cX3_allDepths 5 = .ok (.bipush 16, 2) := by decide +kernel
theorem dX3_allDepths_7 : decode cX3_allDepths 7 = .ok (.if_icmp .ge 23, 3) := by decide +kernel
theorem dX3_allDepths_10 : decode cX3_allDepths 10 = .ok (.iload_n 1, 1) := by decide +kernel
theorem dX3_allDepths_11 : decode cX3_allDepths 11 = .ok (.aload_n 0, 1) := by decide +kernel
theorem dX3_allDepths_12 : decode cX3_allDepths 12 = .ok (.getfield 15, 3) := by decide +kernel
theorem dX3_allDepths_15 : decode cX3_allDepths 15 = .ok (.iload_n 2, 1) := by decide +kernel
theorem dX3_allDepths_16 : decode cX3_allDepths 16 = .ok (.invokestatic 54, 3) := by decide +kernel
theorem dX3_allDepths_19 : decode cX3_allDepths 19 = .ok (.invokestatic 61, 3) := by decide +kernel
theorem dX3_allDepths_22 : decode cX3_allDepths 22 = .ok (.iadd, 1) := by decide +kernel
theorem dX3_allDepths_23 : decode cX3_allDepths 23 = .ok (.istore_n 1, 1) := by decide +kernel
theorem dX3_allDepths_24 : decode cX3_allDepths 24 = .ok (.iinc 2 1, 3) := by decide +kernel
theorem dX3_allDepths_27 : decode cX3_allDepths 27 = .ok (.goto (-23), 3) := by decide +kernel
theorem dX3_allDepths_30 : decode cX3_allDepths 30 = .ok (.iload_n 1, 1) := by decide +kernel
theorem dX3_allDepths_31 : decode cX3_allDepths 31 = .ok (.ireturn, 1) := by decide +kernel
theorem dX4_init_0 : decode cX4_init 0 = .ok (.aload_n 0, 1) := by decide +kernel
theorem dX4_init_1 : decode cX4_init 1 = .ok (.invokespecial 3, 3) := by decide +kernel
theorem dX4_init_4 : decode cX4_init 4 = .ok (.aload_n 0, 1) := by decide +kernel
theorem dX4_init_5 : decode cX4_init 5 = .ok (.bipush 16, 2) := by decide +kernel
theorem dX4_init_7 : decode cX4_init 7 = .ok (.newarray .int, 2) := by decide +kernel
theorem dX4_init_9 : decode cX4_init 9 = .ok (.putfield 9, 3) := by decide +kernel
theorem dX4_init_12 : decode cX4_init 12 = .ok (.return_, 1) := by decide +kernel
theorem dX4_weigh_0 : decode cX4_weigh 0 = .ok (.aload_n 0, 1) := by decide +kernel
theorem dX4_weigh_1 : decode cX4_weigh 1 = .ok (.iconst 0, 1) := by decide +kernel
theorem dX4_weigh_2 : decode cX4_weigh 2 = .ok (.putfield 15, 3) := by decide +kernel
theorem dX4_weigh_5 : decode cX4_weigh 5 = .ok (.iconst 0, 1) := by decide +kernel
theorem dX4_weigh_6 : decode cX4_weigh 6 = .ok (.istore_n 3, 1) := by decide +kernel
theorem dX4_weigh_7 : decode cX4_weigh 7 = .ok (.iload_n 3, 1) := by decide +kernel
theorem dX4_weigh_8 : decode cX4_weigh 8 = .ok (.bipush 16, 2) := by decide +kernel
theorem dX4_weigh_10 : decode cX4_weigh 10 = .ok (.if_icmp .ge 80, 3) := by decide +kernel
theorem dX4_weigh_13 : decode cX4_weigh 13 = .ok (.aload_n 2, 1) := by decide +kernel
theorem dX4_weigh_14 : decode cX4_weigh 14 = .ok (.iload_n 3, 1) := by decide +kernel
theorem dX4_weigh_15 : decode cX4_weigh 15 = .ok (.invokestatic 19, 3) := by decide +kernel
theorem dX4_weigh_18 : decode cX4_weigh 18 = .ok (.aload_n 1, 1) := by decide +kernel
theorem dX4_weigh_19 : decode cX4_weigh 19 = .ok (.getfield 23, 3) := by decide +kernel
theorem dX4_weigh_22 : decode cX4_weigh 22 = .ok (.iload_n 3, 1) := by decide +kernel
theorem dX4_weigh_23 : decode cX4_weigh 23 = .ok (.invokestatic 19, 3) := by decide +kernel
theorem dX4_weigh_26 : decode cX4_weigh 26 = .ok (.iload_n 3, 1) := by decide +kernel
theorem dX4_weigh_27 : decode cX4_weigh 27 = .ok (.invokestatic 28, 3) := by decide +kernel
theorem dX4_weigh_30 : decode cX4_weigh 30 = .ok (.ior, 1) := by decide +kernel
theorem dX4_weigh_31 : decode cX4_weigh 31 = .ok (.iand, 1) := by decide +kernel
theorem dX4_weigh_32 : decode cX4_weigh 32 = .ok (.istore 4, 2) := by decide +kernel
theorem dX4_weigh_34 : decode cX4_weigh 34 = .ok (.aload_n 0, 1) := by decide +kernel
theorem dX4_weigh_35 : decode cX4_weigh 35 = .ok (.getfield 9, 3) := by decide +kernel
theorem dX4_weigh_38 : decode cX4_weigh 38 = .ok (.iload_n 3, 1) := by decide +kernel
theorem dX4_weigh_39 : decode cX4_weigh 39 = .ok (.iconst 0, 1) := by decide +kernel
theorem dX4_weigh_40 : decode cX4_weigh 40 = .ok (.invokestatic 32, 3) := by decide +kernel
theorem dX4_weigh_43 : decode cX4_weigh 43 = .ok (.iload 4, 2) := by decide +kernel
theorem dX4_weigh_45 : decode cX4_weigh 45 = .ok (.ifCond .eq 39, 3) := by decide +kernel
theorem dX4_weigh_48 : decode cX4_weigh 48 = .ok (.aload_n 0, 1) := by decide +kernel
theorem dX4_weigh_49 : decode cX4_weigh 49 = .ok (.dup, 1) := by decide +kernel
theorem dX4_weigh_50 : decode cX4_weigh 50 = .ok (.getfield 15, 3) := by decide +kernel
theorem dX4_weigh_53 : decode cX4_weigh 53 = .ok (.iload_n 3, 1) := by decide +kernel
theorem dX4_weigh_54 : decode cX4_weigh 54 = .ok (.invokestatic 28, 3) := by decide +kernel
theorem dX4_weigh_57 : decode cX4_weigh 57 = .ok (.ior, 1) := by decide +kernel
theorem dX4_weigh_58 : decode cX4_weigh 58 = .ok (.putfield 15, 3) := by decide +kernel
theorem dX4_weigh_61 : decode cX4_weigh 61 = .ok (.aload_n 0, 1) := by decide +kernel
theorem dX4_weigh_62 : decode cX4_weigh 62 = .ok (.getfield 9, 3) := by decide +kernel
theorem dX4_weigh_65 : decode cX4_weigh 65 = .ok (.iload_n 3, 1) := by decide +kernel
theorem dX4_weigh_66 : decode cX4_weigh 66 = .ok (.iload_n 3, 1) := by decide +kernel
theorem dX4_weigh_67 : decode cX4_weigh 67 = .ok (.invokestatic 28, 3) := by decide +kernel
theorem dX4_weigh_70 : decode cX4_weigh 70 = .ok (.aload_n 2, 1) := by decide +kernel
theorem dX4_weigh_71 : decode cX4_weigh 71 = .ok (.iload 4, 2) := by decide +kernel
theorem dX4_weigh_73 : decode cX4_weigh 73 = .ok (.iload_n 3, 1) := by decide +kernel
theorem dX4_weigh_74 : decode cX4_weigh 74 = .ok (.invokestatic 28, 3) := by decide +kernel
theorem dX4_weigh_77 : decode cX4_weigh 77 = .ok (.invokestatic 36, 3) := by decide +kernel
theorem dX4_weigh_80 : decode cX4_weigh 80 = .ok (.ior, 1) := by decide +kernel
theorem dX4_weigh_81 : decode cX4_weigh 81 = .ok (.invokestatic 32, 3) := by decide +kernel
theorem dX4_weigh_84 : decode cX4_weigh 84 = .ok (.iinc 3 1, 3) := by decide +kernel
theorem dX4_weigh_87 : decode cX4_weigh 87 = .ok (.goto (-80), 3) := by decide +kernel
theorem dX4_weigh_90 : decode cX4_weigh 90 = .ok (.return_, 1) := by decide +kernel
theorem dX4_holding_0 : decode cX4_holding 0 = .ok (.iconst 0, 1) := by decide +kernel
theorem dX4_holding_1 : decode cX4_holding 1 = .ok (.istore_n 2, 1) := by decide +kernel
theorem dX4_holding_2 : decode cX4_holding 2 = .ok (.iconst 0, 1) := by decide +kernel
theorem dX4_holding_3 : decode cX4_holding 3 = .ok (.istore_n 3, 1) := by decide +kernel
theorem dX4_holding_4 : decode cX4_holding 4 = .ok (.iload_n 3, 1) := by decide +kernel
theorem dX4_holding_5 : decode cX4_holding 5 = .ok (.bipush 16, 2) := by decide +kernel
theorem dX4_holding_7 : decode cX4_holding 7 = .ok (.if_icmp .ge 27, 3) := by decide +kernel
theorem dX4_holding_10 : decode cX4_holding 10 = .ok (.aload_n 0, 1) := by decide +kernel
theorem dX4_holding_11 : decode cX4_holding 11 = .ok (.getfield 9, 3) := by decide +kernel
theorem dX4_holding_14 : decode cX4_holding 14 = .ok (.iload_n 3, 1) := by decide +kernel
theorem dX4_holding_15 : decode cX4_holding 15 = .ok (.invokestatic 19, 3) := by decide +kernel
theorem dX4_holding_18 : decode cX4_holding 18 = .ok (.iload_n 1, 1) := by decide +kernel
theorem dX4_holding_19 : decode cX4_holding 19 = .ok (.invokestatic 40, 3) := by decide +kernel
theorem dX4_holding_22 : decode cX4_holding 22 = .ok (.ifCond .eq 6, 3) := by decide +kernel
theorem dX4_holding_25 : decode cX4_holding 25 = .ok (.iinc 2 1, 3) := by decide +kernel
theorem dX4_holding_28 : decode cX4_holding 28 = .ok (.iinc 3 1, 3) := by decide +kernel
theorem dX4_holding_31 : decode cX4_holding 31 = .ok (.goto (-27), 3) := by decide +kernel
theorem dX4_holding_34 : decode cX4_holding 34 = .ok (.iload_n 2, 1) := by decide +kernel
theorem dX4_holding_35 : decode cX4_holding 35 = .ok (.ireturn, 1) := by decide +kernel
theorem dX4_size_0 : decode cX4_size 0 = .ok (.iload_n 1, 1) := by decide +kernel
theorem dX4_size_1 : decode cX4_size 1 = .ok (.iconst (-1), 1) := by decide +kernel
theorem dX4_size_2 : decode cX4_size 2 = .ok (.if_icmp .ne 7, 3) := by decide +kernel
theorem dX4_size_5 : decode cX4_size 5 = .ok (.iconst 0, 1) := by decide +kernel
theorem dX4_size_6 : decode cX4_size 6 = .ok (.goto 14, 3) := by decide +kernel
theorem dX4_size_9 : decode cX4_size 9 = .ok (.aload_n 0, 1) := by decide +kernel
theorem dX4_size_10 : decode cX4_size 10 = .ok (.getfield 9, 3) := by decide +kernel
theorem dX4_size_13 : decode cX4_size 13 = .ok (.iload_n 1, 1) := by decide +kernel
theorem dX4_size_14 : decode cX4_size 14 = .ok (.invokestatic 19, 3) := by decide +kernel
theorem dX4_size_17 : decode cX4_size 17 = .ok (.invokestatic 44, 3) := by decide +kernel
theorem dX4_size_20 : decode cX4_size 20 = .ok (.ireturn, 1) := by decide +kernel
theorem dX4_smallest_0 : decode cX4_smallest 0 = .ok (.iconst (-1), 1) := by decide +kernel
theorem dX4_smallest_1 : decode cX4_smallest 1 = .ok (.istore_n 3, 1) := by decide +kernel
theorem dX4_smallest_2 : decode cX4_smallest 2 = .ok (.iconst 0, 1) := by decide +kernel
theorem dX4_smallest_3 : decode cX4_smallest 3 = .ok (.istore 4, 2) := by decide +kernel
theorem dX4_smallest_5 : decode cX4_smallest 5 = .ok (.iload 4, 2) := by decide +kernel
theorem dX4_smallest_7 : decode cX4_smallest 7 = .ok (.bipush 16, 2) := by decide +kernel
theorem dX4_smallest_9 : decode cX4_smallest 9 = .ok (.if_icmp .ge 69, 3) := by decide +kernel
theorem dX4_smallest_12 : decode cX4_smallest 12 = .ok (.aload_n 0, 1) := by decide +kernel
theorem dX4_smallest_13 : decode cX4_smallest 13 = .ok (.getfield 9, 3) := by decide +kernel
theorem dX4_smallest_16 : decode cX4_smallest 16 = .ok (.iload 4, 2) := by decide +kernel
theorem dX4_smallest_18 : decode cX4_smallest 18 = .ok (.invokestatic 19, 3) := by decide +kernel
theorem dX4_smallest_21 : decode cX4_smallest 21 = .ok (.iload_n 1, 1) := by decide +kernel
theorem dX4_smallest_22 : decode cX4_smallest 22 = .ok (.invokestatic 40, 3) := by decide +kernel
theorem dX4_smallest_25 : decode cX4_smallest 25 = .ok (.ifCond .eq 17, 3) := by decide +kernel
theorem dX4_smallest_28 : decode cX4_smallest 28 = .ok (.aload_n 0, 1) := by decide +kernel
theorem dX4_smallest_29 : decode cX4_smallest 29 = .ok (.iload 4, 2) := by decide +kernel
theorem dX4_smallest_31 : decode cX4_smallest 31 = .ok (.invokevirtual 49, 3) := by decide +kernel
theorem dX4_smallest_34 : decode cX4_smallest 34 = .ok (.iload_n 2, 1) := by decide +kernel
theorem dX4_smallest_35 : decode cX4_smallest 35 = .ok (.if_icmp .le 7, 3) := by decide +kernel
theorem dX4_smallest_38 : decode cX4_smallest 38 = .ok (.iconst 1, 1) := by decide +kernel
theorem dX4_smallest_39 : decode cX4_smallest 39 = .ok (.goto 4, 3) := by decide +kernel
theorem dX4_smallest_42 : decode cX4_smallest 42 = .ok (.iconst 0, 1) := by decide +kernel
theorem dX4_smallest_43 : decode cX4_smallest 43 = .ok (.istore 5, 2) := by decide +kernel
theorem dX4_smallest_45 : decode cX4_smallest 45 = .ok (.iload 5, 2) := by decide +kernel
theorem dX4_smallest_47 : decode cX4_smallest 47 = .ok (.ifCond .eq 25, 3) := by decide +kernel
theorem dX4_smallest_50 : decode cX4_smallest 50 = .ok (.iload_n 3, 1) := by decide +kernel
theorem dX4_smallest_51 : decode cX4_smallest 51 = .ok (.iconst (-1), 1) := by decide +kernel
theorem dX4_smallest_52 : decode cX4_smallest 52 = .ok (.if_icmp .eq 17, 3) := by decide +kernel
theorem dX4_smallest_55 : decode cX4_smallest 55 = .ok (.aload_n 0, 1) := by decide +kernel
theorem dX4_smallest_56 : decode cX4_smallest 56 = .ok (.iload 4, 2) := by decide +kernel
theorem dX4_smallest_58 : decode cX4_smallest 58 = .ok (.invokevirtual 49, 3) := by decide +kernel
theorem dX4_smallest_61 : decode cX4_smallest 61 = .ok (.aload_n 0, 1) := by decide +kernel
theorem dX4_smallest_62 : decode cX4_smallest 62 = .ok (.iload_n 3, 1) := by decide +kernel
theorem dX4_smallest_63 : decode cX4_smallest 63 = .ok (.invokevirtual 49, 3) := by decide +kernel
theorem dX4_smallest_66 : decode cX4_smallest 66 = .ok (.if_icmp .ge 6, 3) := by decide +kernel
theorem dX4_smallest_69 : decode cX4_smallest 69 = .ok (.iload 4, 2) := by decide +kernel
theorem dX4_smallest_71 : decode cX4_smallest 71 = .ok (.istore_n 3, 1) := by decide +kernel
theorem dX4_smallest_72 : decode cX4_smallest 72 = .ok (.iinc 4 1, 3) := by decide +kernel
theorem dX4_smallest_75 : decode cX4_smallest 75 = .ok (.goto (-70), 3) := by decide +kernel
theorem dX4_smallest_78 : decode cX4_smallest 78 = .ok (.iload_n 3, 1) := by decide +kernel
theorem dX4_smallest_79 : decode cX4_smallest 79 = .ok (.ireturn, 1) := by decide +kernel
theorem dX5_init_0 : decode cX5_init 0 = .ok (.aload_n 0, 1) := by decide +kernel
theorem dX5_init_1 : decode cX5_init 1 = .ok (.invokespecial 3, 3) := by decide +kernel
theorem dX5_init_4 : decode cX5_init 4 = .ok (.aload_n 0, 1) := by decide +kernel
theorem dX5_init_5 : decode cX5_init 5 = .ok (.bipush 8, 2) := by decide +kernel
theorem dX5_init_7 : decode cX5_init 7 = .ok (.anewarray 9, 3) := by decide +kernel
theorem dX5_init_10 : decode cX5_init 10 = .ok (.putfield 11, 3) := by decide +kernel
theorem dX5_init_13 : decode cX5_init 13 = .ok (.iconst 0, 1) := by decide +kernel
theorem dX5_init_14 : decode cX5_init 14 = .ok (.istore_n 1, 1) := by decide +kernel
theorem dX5_init_15 : decode cX5_init 15 = .ok (.iload_n 1, 1) := by decide +kernel
theorem dX5_init_16 : decode cX5_init 16 = .ok (.aload_n 0, 1) := by decide +kernel
theorem dX5_init_17 : decode cX5_init 17 = .ok (.getfield 11, 3) := by decide +kernel
theorem dX5_init_20 : decode cX5_init 20 = .ok (.arraylength, 1) := by decide +kernel
theorem dX5_init_21 : decode cX5_init 21 = .ok (.if_icmp .ge 22, 3) := by decide +kernel
theorem dX5_init_24 : decode cX5_init 24 = .ok (.aload_n 0, 1) := by decide +kernel
theorem dX5_init_25 : decode cX5_init 25 = .ok (.getfield 11, 3) := by decide +kernel
theorem dX5_init_28 : decode cX5_init 28 = .ok (.iload_n 1, 1) := by decide +kernel
theorem dX5_init_29 : decode cX5_init 29 = .ok (.new 9, 3) := by decide +kernel
theorem dX5_init_32 : decode cX5_init 32 = .ok (.dup, 1) := by decide +kernel
theorem dX5_init_33 : decode cX5_init 33 = .ok (.invokespecial 17, 3) := by decide +kernel
theorem dX5_init_36 : decode cX5_init 36 = .ok (.aastore, 1) := by decide +kernel
theorem dX5_init_37 : decode cX5_init 37 = .ok (.iinc 1 1, 3) := by decide +kernel
theorem dX5_init_40 : decode cX5_init 40 = .ok (.goto (-25), 3) := by decide +kernel
theorem dX5_init_43 : decode cX5_init 43 = .ok (.return_, 1) := by decide +kernel
theorem dX5_push_0 : decode cX5_push 0 = .ok (.aload_n 0, 1) := by decide +kernel
theorem dX5_push_1 : decode cX5_push 1 = .ok (.getfield 18, 3) := by decide +kernel
theorem dX5_push_4 : decode cX5_push 4 = .ok (.aload_n 0, 1) := by decide +kernel
theorem dX5_push_5 : decode cX5_push 5 = .ok (.getfield 11, 3) := by decide +kernel
theorem dX5_push_8 : decode cX5_push 8 = .ok (.arraylength, 1) := by decide +kernel
theorem dX5_push_9 : decode cX5_push 9 = .ok (.if_icmp .lt 7, 3) := by decide +kernel
theorem dX5_push_12 : decode cX5_push 12 = .ok (.aload_n 0, 1) := by decide +kernel
theorem dX5_push_13 : decode cX5_push 13 = .ok (.invokevirtual 22, 3) := by decide +kernel
theorem dX5_push_16 : decode cX5_push 16 = .ok (.aload_n 0, 1) := by decide +kernel
theorem dX5_push_17 : decode cX5_push 17 = .ok (.getfield 18, 3) := by decide +kernel
theorem dX5_push_20 : decode cX5_push 20 = .ok (.ifCond .lt 50, 3) := by decide +kernel
theorem dX5_push_23 : decode cX5_push 23 = .ok (.aload_n 0, 1) := by decide +kernel
theorem dX5_push_24 : decode cX5_push 24 = .ok (.getfield 18, 3) := by decide +kernel
theorem dX5_push_27 : decode cX5_push 27 = .ok (.aload_n 0, 1) := by decide +kernel
theorem dX5_push_28 : decode cX5_push 28 = .ok (.getfield 11, 3) := by decide +kernel
theorem dX5_push_31 : decode cX5_push 31 = .ok (.arraylength, 1) := by decide +kernel
theorem dX5_push_32 : decode cX5_push 32 = .ok (.if_icmp .ge 38, 3) := by decide +kernel
theorem dX5_push_35 : decode cX5_push 35 = .ok (.aload_n 0, 1) := by decide +kernel
theorem dX5_push_36 : decode cX5_push 36 = .ok (.getfield 11, 3) := by decide +kernel
theorem dX5_push_39 : decode cX5_push 39 = .ok (.aload_n 0, 1) := by decide +kernel
theorem dX5_push_40 : decode cX5_push 40 = .ok (.getfield 18, 3) := by decide +kernel
theorem dX5_push_43 : decode cX5_push 43 = .ok (.aaload, 1) := by decide +kernel
theorem dX5_push_44 : decode cX5_push 44 = .ok (.ifnull 26, 3) := by decide +kernel
theorem dX5_push_47 : decode cX5_push 47 = .ok (.aload_n 0, 1) := by decide +kernel
theorem dX5_push_48 : decode cX5_push 48 = .ok (.getfield 11, 3) := by decide +kernel
theorem dX5_push_51 : decode cX5_push 51 = .ok (.aload_n 0, 1) := by decide +kernel
theorem dX5_push_52 : decode cX5_push 52 = .ok (.getfield 18, 3) := by decide +kernel
theorem dX5_push_55 : decode cX5_push 55 = .ok (.aaload, 1) := by decide +kernel
theorem dX5_push_56 : decode cX5_push 56 = .ok (.aload_n 1, 1) := by decide +kernel
theorem dX5_push_57 : decode cX5_push 57 = .ok (.invokevirtual 25, 3) := by decide +kernel
theorem dX5_push_60 : decode cX5_push 60 = .ok (.aload_n 0, 1) := by decide +kernel
theorem dX5_push_61 : decode cX5_push 61 = .ok (.dup, 1) := by decide +kernel
theorem dX5_push_62 : decode cX5_push 62 = .ok (.getfield 18, 3) := by decide +kernel
theorem dX5_push_65 : decode cX5_push 65 = .ok (.iconst 1, 1) := by decide +kernel
theorem dX5_push_66 : decode cX5_push 66 = .ok (.iadd, 1) := by decide +kernel
theorem dX5_push_67 : decode cX5_push 67 = .ok (.putfield 18, 3) := by decide +kernel
theorem dX5_push_70 : decode cX5_push 70 = .ok (.return_, 1) := by decide +kernel
theorem dX5_forgetFirst_0 : decode cX5_forgetFirst 0 = .ok (.aload_n 0, 1) := by decide +kernel
theorem dX5_forgetFirst_1 : decode cX5_forgetFirst 1 = .ok (.getfield 11, 3) := by decide +kernel
theorem dX5_forgetFirst_4 : decode cX5_forgetFirst 4 = .ok (.arraylength, 1) := by decide +kernel
theorem dX5_forgetFirst_5 : decode cX5_forgetFirst 5 = .ok (.ifCond .le 65, 3) := by decide +kernel
theorem dX5_forgetFirst_8 : decode cX5_forgetFirst 8 = .ok (.aload_n 0, 1) := by decide +kernel
theorem dX5_forgetFirst_9 : decode cX5_forgetFirst 9 = .ok (.getfield 11, 3) := by decide +kernel
theorem dX5_forgetFirst_12 : decode cX5_forgetFirst 12 = .ok (.iconst 0, 1) := by decide +kernel
theorem dX5_forgetFirst_13 : decode cX5_forgetFirst 13 = .ok (.aaload, 1) := by decide +kernel
theorem dX5_forgetFirst_14 : decode cX5_forgetFirst 14 = .ok (.astore_n 1, 1) := by decide +kernel
theorem dX5_forgetFirst_15 : decode cX5_forgetFirst 15 = .ok (.iconst 1, 1) := by decide +kernel
theorem dX5_forgetFirst_16 : decode cX5_forgetFirst 16 = .ok (.istore_n 2, 1) := by decide +kernel
theorem dX5_forgetFirst_17 : decode cX5_forgetFirst 17 = .ok (.iload_n 2, 1) := by decide +kernel
theorem dX5_forgetFirst_18 : decode cX5_forgetFirst 18 = .ok (.aload_n 0, 1) := by decide +kernel
theorem dX5_forgetFirst_19 : decode cX5_forgetFirst 19 = .ok (.getfield 11, 3) := by decide +kernel
theorem dX5_forgetFirst_22 : decode cX5_forgetFirst 22 = .ok (.arraylength, 1) := by decide +kernel
theorem dX5_forgetFirst_23 : decode cX5_forgetFirst 23 = .ok (.if_icmp .ge 23, 3) := by decide +kernel
theorem dX5_forgetFirst_26 : decode cX5_forgetFirst 26 = .ok (.aload_n 0, 1) := by decide +kernel
theorem dX5_forgetFirst_27 : decode cX5_forgetFirst 27 = .ok (.getfield 11, 3) := by decide +kernel
theorem dX5_forgetFirst_30 : decode cX5_forgetFirst 30 = .ok (.iload_n 2, 1) := by decide +kernel
theorem dX5_forgetFirst_31 : decode cX5_forgetFirst 31 = .ok (.iconst 1, 1) := by decide +kernel
theorem dX5_forgetFirst_32 : decode cX5_forgetFirst 32 = .ok (.isub, 1) := by decide +kernel
theorem dX5_forgetFirst_33 : decode cX5_forgetFirst 33 = .ok (.aload_n 0, 1) := by decide +kernel
theorem dX5_forgetFirst_34 : decode cX5_forgetFirst 34 = .ok (.getfield 11, 3) := by decide +kernel
theorem dX5_forgetFirst_37 : decode cX5_forgetFirst 37 = .ok (.iload_n 2, 1) := by decide +kernel
theorem dX5_forgetFirst_38 : decode cX5_forgetFirst 38 = .ok (.aaload, 1) := by decide +kernel
theorem dX5_forgetFirst_39 : decode cX5_forgetFirst 39 = .ok (.aastore, 1) := by decide +kernel
theorem dX5_forgetFirst_40 : decode cX5_forgetFirst 40 = .ok (.iinc 2 1, 3) := by decide +kernel
theorem dX5_forgetFirst_43 : decode cX5_forgetFirst 43 = .ok (.goto (-26), 3) := by decide +kernel
theorem dX5_forgetFirst_46 : decode cX5_forgetFirst 46 = .ok (.aload_n 0, 1) := by decide +kernel
theorem dX5_forgetFirst_47 : decode cX5_forgetFirst 47 = .ok (.getfield 11, 3) := by decide +kernel
theorem dX5_forgetFirst_50 : decode cX5_forgetFirst 50 = .ok (.aload_n 0, 1) := by decide +kernel
theorem dX5_forgetFirst_51 : decode cX5_forgetFirst 51 = .ok (.getfield 11, 3) := by decide +kernel
theorem dX5_forgetFirst_54 : decode cX5_forgetFirst 54 = .ok (.arraylength, 1) := by decide +kernel
theorem dX5_forgetFirst_55 : decode cX5_forgetFirst 55 = .ok (.iconst 1, 1) := by decide +kernel
theorem dX5_forgetFirst_56 : decode cX5_forgetFirst 56 = .ok (.isub, 1) := by decide +kernel
theorem dX5_forgetFirst_57 : decode cX5_forgetFirst 57 = .ok (.aload_n 1, 1) := by decide +kernel
theorem dX5_forgetFirst_58 : decode cX5_forgetFirst 58 = .ok (.aastore, 1) := by decide +kernel
theorem dX5_forgetFirst_59 : decode cX5_forgetFirst 59 = .ok (.aload_n 0, 1) := by decide +kernel
theorem dX5_forgetFirst_60 : decode cX5_forgetFirst 60 = .ok (.aload_n 0, 1) := by decide +kernel
theorem dX5_forgetFirst_61 : decode cX5_forgetFirst 61 = .ok (.getfield 11, 3) := by decide +kernel
theorem dX5_forgetFirst_64 : decode cX5_forgetFirst 64 = .ok (.arraylength, 1) := by decide +kernel
theorem dX5_forgetFirst_65 : decode cX5_forgetFirst 65 = .ok (.iconst 1, 1) := by decide +kernel
theorem dX5_forgetFirst_66 : decode cX5_forgetFirst 66 = .ok (.isub, 1) := by decide +kernel
theorem dX5_forgetFirst_67 : decode cX5_forgetFirst 67 = .ok (.putfield 18, 3) := by decide +kernel
theorem dX5_forgetFirst_70 : decode cX5_forgetFirst 70 = .ok (.return_, 1) := by decide +kernel
theorem dX5_pop_0 : decode cX5_pop 0 = .ok (.aload_n 0, 1) := by decide +kernel
theorem dX5_pop_1 : decode cX5_pop 1 = .ok (.getfield 18, 3) := by decide +kernel
theorem dX5_pop_4 : decode cX5_pop 4 = .ok (.iconst 1, 1) := by decide +kernel
theorem dX5_pop_5 : decode cX5_pop 5 = .ok (.isub, 1) := by decide +kernel
theorem dX5_pop_6 : decode cX5_pop 6 = .ok (.istore_n 2, 1) := by decide +kernel
theorem dX5_pop_7 : decode cX5_pop 7 = .ok (.iload_n 2, 1) := by decide +kernel
theorem dX5_pop_8 : decode cX5_pop 8 = .ok (.ifCond .lt 36, 3) := by decide +kernel
theorem dX5_pop_11 : decode cX5_pop 11 = .ok (.iload_n 2, 1) := by decide +kernel
theorem dX5_pop_12 : decode cX5_pop 12 = .ok (.aload_n 0, 1) := by decide +kernel
theorem dX5_pop_13 : decode cX5_pop 13 = .ok (.getfield 11, 3) := by decide +kernel
theorem dX5_pop_16 : decode cX5_pop 16 = .ok (.arraylength, 1) := by decide +kernel
theorem dX5_pop_17 : decode cX5_pop 17 = .ok (.if_icmp .ge 27, 3) := by decide +kernel
theorem dX5_pop_20 : decode cX5_pop 20 = .ok (.aload_n 0, 1) := by decide +kernel
theorem dX5_pop_21 : decode cX5_pop 21 = .ok (.getfield 11, 3) := by decide +kernel
theorem dX5_pop_24 : decode cX5_pop 24 = .ok (.iload_n 2, 1) := by decide +kernel
theorem dX5_pop_25 : decode cX5_pop 25 = .ok (.aaload, 1) := by decide +kernel
theorem dX5_pop_26 : decode cX5_pop 26 = .ok (.ifnull 18, 3) := by decide +kernel
theorem dX5_pop_29 : decode cX5_pop 29 = .ok (.aload_n 1, 1) := by decide +kernel
theorem dX5_pop_30 : decode cX5_pop 30 = .ok (.aload_n 0, 1) := by decide +kernel
theorem dX5_pop_31 : decode cX5_pop 31 = .ok (.getfield 11, 3) := by decide +kernel
theorem dX5_pop_34 : decode cX5_pop 34 = .ok (.iload_n 2, 1) := by decide +kernel
theorem dX5_pop_35 : decode cX5_pop 35 = .ok (.aaload, 1) := by decide +kernel
theorem dX5_pop_36 : decode cX5_pop 36 = .ok (.invokevirtual 25, 3) := by decide +kernel
theorem dX5_pop_39 : decode cX5_pop 39 = .ok (.aload_n 0, 1) := by decide +kernel
theorem dX5_pop_40 : decode cX5_pop 40 = .ok (.iload_n 2, 1) := by decide +kernel
theorem dX5_pop_41 : decode cX5_pop 41 = .ok (.putfield 18, 3) := by decide +kernel
theorem dX5_pop_44 : decode cX5_pop 44 = .ok (.return_, 1) := by decide +kernel
theorem dX6_init_0 : decode cX6_init 0 = .ok (.aload_n 0, 1) := by decide +kernel
theorem dX6_init_1 : decode cX6_init 1 = .ok (.invokespecial 3, 3) := by decide +kernel
theorem dX6_init_4 : decode cX6_init 4 = .ok (.aload_n 0, 1) := by decide +kernel
theorem dX6_init_5 : decode cX6_init 5 = .ok (.bipush 60, 2) := by decide +kernel
theorem dX6_init_7 : decode cX6_init 7 = .ok (.newarray .int, 2) := by decide +kernel
theorem dX6_init_9 : decode cX6_init 9 = .ok (.putfield 9, 3) := by decide +kernel
theorem dX6_init_12 : decode cX6_init 12 = .ok (.aload_n 0, 1) := by decide +kernel
theorem dX6_init_13 : decode cX6_init 13 = .ok (.bipush 60, 2) := by decide +kernel
theorem dX6_init_15 : decode cX6_init 15 = .ok (.newarray .int, 2) := by decide +kernel
theorem dX6_init_17 : decode cX6_init 17 = .ok (.putfield 15, 3) := by decide +kernel
theorem dX6_init_20 : decode cX6_init 20 = .ok (.aload_n 0, 1) := by decide +kernel
theorem dX6_init_21 : decode cX6_init 21 = .ok (.bipush 16, 2) := by decide +kernel
theorem dX6_init_23 : decode cX6_init 23 = .ok (.newarray .int, 2) := by decide +kernel
theorem dX6_init_25 : decode cX6_init 25 = .ok (.putfield 18, 3) := by decide +kernel
theorem dX6_init_28 : decode cX6_init 28 = .ok (.aload_n 0, 1) := by decide +kernel
theorem dX6_init_29 : decode cX6_init 29 = .ok (.bipush 8, 2) := by decide +kernel
theorem dX6_init_31 : decode cX6_init 31 = .ok (.invokevirtual 21, 3) := by decide +kernel
theorem dX6_init_34 : decode cX6_init 34 = .ok (.return_, 1) := by decide +kernel
theorem dX6_reset_0 : decode cX6_reset 0 = .ok (.aload_n 0, 1) := by decide +kernel
theorem dX6_reset_1 : decode cX6_reset 1 = .ok (.iload_n 1, 1) := by decide +kernel
theorem dX6_reset_2 : decode cX6_reset 2 = .ok (.putfield 25, 3) := by decide +kernel
theorem dX6_reset_5 : decode cX6_reset 5 = .ok (.aload_n 0, 1) := by decide +kernel
theorem dX6_reset_6 : decode cX6_reset 6 = .ok (.iconst 0, 1) := by decide +kernel
theorem dX6_reset_7 : decode cX6_reset 7 = .ok (.putfield 29, 3) := by decide +kernel
theorem dX6_reset_10 : decode cX6_reset 10 = .ok (.aload_n 0, 1) := by decide +kernel
theorem dX6_reset_11 : decode cX6_reset 11 = .ok (.iload_n 1, 1) := by decide +kernel
theorem dX6_reset_12 : decode cX6_reset 12 = .ok (.iconst 1, 1) := by decide +kernel
theorem dX6_reset_13 : decode cX6_reset 13 = .ok (.isub, 1) := by decide +kernel
theorem dX6_reset_14 : decode cX6_reset 14 = .ok (.putfield 32, 3) := by decide +kernel
theorem dX6_reset_17 : decode cX6_reset 17 = .ok (.aload_n 0, 1) := by decide +kernel
theorem dX6_reset_18 : decode cX6_reset 18 = .ok (.iconst 0, 1) := by decide +kernel
theorem dX6_reset_19 : decode cX6_reset 19 = .ok (.putfield 35, 3) := by decide +kernel
theorem dX6_reset_22 : decode cX6_reset 22 = .ok (.aload_n 0, 1) := by decide +kernel
theorem dX6_reset_23 : decode cX6_reset 23 = .ok (.lconst 0, 1) := by decide +kernel
theorem dX6_reset_24 : decode cX6_reset 24 = .ok (.putfield 38, 3) := by decide +kernel
theorem dX6_reset_27 : decode cX6_reset 27 = .ok (.aload_n 0, 1) := by decide +kernel
theorem dX6_reset_28 : decode cX6_reset 28 = .ok (.getfield 18, 3) := by decide +kernel
theorem dX6_reset_31 : decode cX6_reset 31 = .ok (.iconst 1, 1) := by decide +kernel
theorem dX6_reset_32 : decode cX6_reset 32 = .ok (.invokestatic 42, 3) := by decide +kernel
theorem dX6_reset_35 : decode cX6_reset 35 = .ok (.return_, 1) := by decide +kernel
theorem dX6_copy_0 : decode cX6_copy 0 = .ok (.aload_n 1, 1) := by decide +kernel
theorem dX6_copy_1 : decode cX6_copy 1 = .ok (.getfield 9, 3) := by decide +kernel
theorem dX6_copy_4 : decode cX6_copy 4 = .ok (.aload_n 0, 1) := by decide +kernel
theorem dX6_copy_5 : decode cX6_copy 5 = .ok (.getfield 9, 3) := by decide +kernel
theorem dX6_copy_8 : decode cX6_copy 8 = .ok (.invokestatic 48, 3) := by decide +kernel
theorem dX6_copy_11 : decode cX6_copy 11 = .ok (.aload_n 1, 1) := by decide +kernel
theorem dX6_copy_12 : decode cX6_copy 12 = .ok (.getfield 15, 3) := by decide +kernel
theorem dX6_copy_15 : decode cX6_copy 15 = .ok (.aload_n 0, 1) := by decide +kernel
theorem dX6_copy_16 : decode cX6_copy 16 = .ok (.getfield 15, 3) := by decide +kernel
theorem dX6_copy_19 : decode cX6_copy 19 = .ok (.invokestatic 48, 3) := by decide +kernel
theorem dX6_copy_22 : decode cX6_copy 22 = .ok (.aload_n 1, 1) := by decide +kernel
theorem dX6_copy_23 : decode cX6_copy 23 = .ok (.getfield 18, 3) := by decide +kernel
theorem dX6_copy_26 : decode cX6_copy 26 = .ok (.aload_n 0, 1) := by decide +kernel
theorem dX6_copy_27 : decode cX6_copy 27 = .ok (.getfield 18, 3) := by decide +kernel
theorem dX6_copy_30 : decode cX6_copy 30 = .ok (.invokestatic 48, 3) := by decide +kernel
theorem dX6_copy_33 : decode cX6_copy 33 = .ok (.aload_n 0, 1) := by decide +kernel
theorem dX6_copy_34 : decode cX6_copy 34 = .ok (.aload_n 1, 1) := by decide +kernel
theorem dX6_copy_35 : decode cX6_copy 35 = .ok (.getfield 25, 3) := by decide +kernel
theorem dX6_copy_38 : decode cX6_copy 38 = .ok (.putfield 25, 3) := by decide +kernel
theorem dX6_copy_41 : decode cX6_copy 41 = .ok (.aload_n 0, 1) := by decide +kernel
theorem dX6_copy_42 : decode cX6_copy 42 = .ok (.aload_n 1, 1) := by decide +kernel
theorem dX6_copy_43 : decode cX6_copy 43 = .ok (.getfield 29, 3) := by decide +kernel
theorem dX6_copy_46 : decode cX6_copy 46 = .ok (.putfield 29, 3) := by decide +kernel
theorem dX6_copy_49 : decode cX6_copy 49 = .ok (.aload_n 0, 1) := by decide +kernel
theorem dX6_copy_50 : decode cX6_copy 50 = .ok (.aload_n 1, 1) := by decide +kernel
theorem dX6_copy_51 : decode cX6_copy 51 = .ok (.getfield 32, 3) := by decide +kernel
theorem dX6_copy_54 : decode cX6_copy 54 = .ok (.putfield 32, 3) := by decide +kernel
theorem dX6_copy_57 : decode cX6_copy 57 = .ok (.aload_n 0, 1) := by decide +kernel
theorem dX6_copy_58 : decode cX6_copy 58 = .ok (.aload_n 1, 1) := by decide +kernel
theorem dX6_copy_59 : decode cX6_copy 59 = .ok (.getfield 35, 3) := by decide +kernel
theorem dX6_copy_62 : decode cX6_copy 62 = .ok (.putfield 35, 3) := by decide +kernel
theorem dX6_copy_65 : decode cX6_copy 65 = .ok (.aload_n 0, 1) := by decide +kernel
theorem dX6_copy_66 : decode cX6_copy 66 = .ok (.aload_n 1, 1) := by decide +kernel
theorem dX6_copy_67 : decode cX6_copy 67 = .ok (.getfield 38, 3) := by decide +kernel
theorem dX6_copy_70 : decode cX6_copy 70 = .ok (.putfield 38, 3) := by decide +kernel
theorem dX6_copy_73 : decode cX6_copy 73 = .ok (.return_, 1) := by decide +kernel
theorem dX6_hasNode_0 : decode cX6_hasNode 0 = .ok (.iload_n 1, 1) := by decide +kernel
theorem dX6_hasNode_1 : decode cX6_hasNode 1 = .ok (.ifCond .lt 15, 3) := by decide +kernel
theorem dX6_hasNode_4 : decode cX6_hasNode 4 = .ok (.iload_n 1, 1) := by decide +kernel
theorem dX6_hasNode_5 : decode cX6_hasNode 5 = .ok (.aload_n 0, 1) := by decide +kernel
theorem dX6_hasNode_6 : decode cX6_hasNode 6 = .ok (.getfield 25, 3) := by decide +kernel
theorem dX6_hasNode_9 : decode cX6_hasNode 9 = .ok (.if_icmp .ge 7, 3) := by decide +kernel
theorem dX6_hasNode_12 : decode cX6_hasNode 12 = .ok (.iconst 1, 1) := by decide +kernel
theorem dX6_hasNode_13 : decode cX6_hasNode 13 = .ok (.goto 4, 3) := by decide +kernel
theorem dX6_hasNode_16 : decode cX6_hasNode 16 = .ok (.iconst 0, 1) := by decide +kernel
theorem dX6_hasNode_17 : decode cX6_hasNode 17 = .ok (.ireturn, 1) := by decide +kernel
theorem dX6_hasArc_0 : decode cX6_hasArc 0 = .ok (.iload_n 1, 1) := by decide +kernel
theorem dX6_hasArc_1 : decode cX6_hasArc 1 = .ok (.ifCond .lt 15, 3) := by decide +kernel
theorem dX6_hasArc_4 : decode cX6_hasArc 4 = .ok (.iload_n 1, 1) := by decide +kernel
theorem dX6_hasArc_5 : decode cX6_hasArc 5 = .ok (.aload_n 0, 1) := by decide +kernel
theorem dX6_hasArc_6 : decode cX6_hasArc 6 = .ok (.getfield 35, 3) := by decide +kernel
theorem dX6_hasArc_9 : decode cX6_hasArc 9 = .ok (.if_icmp .ge 7, 3) := by decide +kernel
theorem dX6_hasArc_12 : decode cX6_hasArc 12 = .ok (.iconst 1, 1) := by decide +kernel
theorem dX6_hasArc_13 : decode cX6_hasArc 13 = .ok (.goto 4, 3) := by decide +kernel
theorem dX6_hasArc_16 : decode cX6_hasArc 16 = .ok (.iconst 0, 1) := by decide +kernel
theorem dX6_hasArc_17 : decode cX6_hasArc 17 = .ok (.ireturn, 1) := by decide +kernel
theorem dX6_isOpen_0 : decode cX6_isOpen 0 = .ok (.aload_n 0, 1) := by decide +kernel
theorem dX6_isOpen_1 : decode cX6_isOpen 1 = .ok (.iload_n 1, 1) := by decide +kernel
theorem dX6_isOpen_2 : decode cX6_isOpen 2 = .ok (.invokevirtual 52, 3) := by decide +kernel
theorem dX6_isOpen_5 : decode cX6_isOpen 5 = .ok (.ifCond .eq 20, 3) := by decide +kernel
theorem dX6_isOpen_8 : decode cX6_isOpen 8 = .ok (.aload_n 0, 1) := by decide +kernel
theorem dX6_isOpen_9 : decode cX6_isOpen 9 = .ok (.getfield 38, 3) := by decide +kernel
theorem dX6_isOpen_12 : decode cX6_isOpen 12 = .ok (.iload_n 1, 1) := by decide +kernel
theorem dX6_isOpen_13 : decode cX6_isOpen 13 = .ok (.lushr, 1) := by decide +kernel
theorem dX6_isOpen_14 : decode cX6_isOpen 14 = .ok (.lconst 1, 1) := by decide +kernel
theorem dX6_isOpen_15 : decode cX6_isOpen 15 = .ok (.land, 1) := by decide +kernel
theorem dX6_isOpen_16 : decode cX6_isOpen 16 = .ok (.lconst 0, 1) := by decide +kernel
theorem dX6_isOpen_17 : decode cX6_isOpen 17 = .ok (.lcmp, 1) := by decide +kernel
theorem dX6_isOpen_18 : decode cX6_isOpen 18 = .ok (.ifCond .eq 7, 3) := by decide +kernel
theorem dX6_isOpen_21 : decode cX6_isOpen 21 = .ok (.iconst 1, 1) := by decide +kernel
theorem dX6_isOpen_22 : decode cX6_isOpen 22 = .ok (.goto 4, 3) := by decide +kernel
theorem dX6_isOpen_25 : decode cX6_isOpen 25 = .ok (.iconst 0, 1) := by decide +kernel
theorem dX6_isOpen_26 : decode cX6_isOpen 26 = .ok (.ireturn, 1) := by decide +kernel
theorem dX6_all_0 : decode cX6_all 0 = .ok (.aload_n 0, 1) := by decide +kernel
theorem dX6_all_1 : decode cX6_all 1 = .ok (.getfield 25, 3) := by decide +kernel
theorem dX6_all_4 : decode cX6_all 4 = .ok (.invokestatic 56, 3) := by decide +kernel
theorem dX6_all_7 : decode cX6_all 7 = .ok (.iconst 1, 1) := by decide +kernel
theorem dX6_all_8 : decode cX6_all 8 = .ok (.isub, 1) := by decide +kernel
theorem dX6_all_9 : decode cX6_all 9 = .ok (.ireturn, 1) := by decide +kernel
theorem dX6_refusal_0 : decode cX6_refusal 0 = .ok (.iload_n 1, 1) := by decide +kernel
theorem dX6_refusal_1 : decode cX6_refusal 1 = .ok (.tableswitch 147 1 6 #[39, 58, 77, 110, 117, 124], 39) := by decide +kernel
theorem dX6_refusal_40 : decode cX6_refusal 40 = .ok (.aload_n 0, 1) := by decide +kernel
theorem dX6_refusal_41 : decode cX6_refusal 41 = .ok (.iload_n 2, 1) := by decide +kernel
theorem dX6_refusal_42 : decode cX6_refusal 42 = .ok (.aload_n 0, 1) := by decide +kernel
theorem dX6_refusal_43 : decode cX6_refusal 43 = .ok (.getfield 29, 3) := by decide +kernel
theorem dX6_refusal_46 : decode cX6_refusal 46 = .ok (.iload_n 2, 1) := by decide +kernel
theorem dX6_refusal_47 : decode cX6_refusal 47 = .ok (.if_icmp .ne 7, 3) := by decide +kernel
theorem dX6_refusal_50 : decode cX6_refusal 50 = .ok (.iconst 1, 1) := by decide +kernel
theorem dX6_refusal_51 : decode cX6_refusal 51 = .ok (.goto 4, 3) := by decide +kernel
theorem dX6_refusal_54 : decode cX6_refusal 54 = .ok (.iconst 0, 1) := by decide +kernel
theorem dX6_refusal_55 : decode cX6_refusal 55 = .ok (.invokevirtual 60, 3) := by decide +kernel
theorem dX6_refusal_58 : decode cX6_refusal 58 = .ok (.ireturn, 1) := by decide +kernel
theorem dX6_refusal_59 : decode cX6_refusal 59 = .ok (.aload_n 0, 1) := by decide +kernel
theorem dX6_refusal_60 : decode cX6_refusal 60 = .ok (.iload_n 2, 1) := by decide +kernel
theorem dX6_refusal_61 : decode cX6_refusal 61 = .ok (.aload_n 0, 1) := by decide +kernel
theorem dX6_refusal_62 : decode cX6_refusal 62 = .ok (.getfield 32, 3) := by decide +kernel
theorem dX6_refusal_65 : decode cX6_refusal 65 = .ok (.iload_n 2, 1) := by decide +kernel
theorem dX6_refusal_66 : decode cX6_refusal 66 = .ok (.if_icmp .ne 7, 3) := by decide +kernel
theorem dX6_refusal_69 : decode cX6_refusal 69 = .ok (.iconst 1, 1) := by decide +kernel
theorem dX6_refusal_70 : decode cX6_refusal 70 = .ok (.goto 4, 3) := by decide +kernel
theorem dX6_refusal_73 : decode cX6_refusal 73 = .ok (.iconst 0, 1) := by decide +kernel
theorem dX6_refusal_74 : decode cX6_refusal 74 = .ok (.invokevirtual 60, 3) := by decide +kernel
theorem dX6_refusal_77 : decode cX6_refusal 77 = .ok (.ireturn, 1) := by decide +kernel
theorem dX6_refusal_78 : decode cX6_refusal 78 = .ok (.aload_n 0, 1) := by decide +kernel
theorem dX6_refusal_79 : decode cX6_refusal 79 = .ok (.iload_n 2, 1) := by decide +kernel
theorem dX6_refusal_80 : decode cX6_refusal 80 = .ok (.invokevirtual 64, 3) := by decide +kernel
theorem dX6_refusal_83 : decode cX6_refusal 83 = .ok (.ifCond .eq 11, 3) := by decide +kernel
theorem dX6_refusal_86 : decode cX6_refusal 86 = .ok (.aload_n 0, 1) := by decide +kernel
theorem dX6_refusal_87 : decode cX6_refusal 87 = .ok (.iload_n 3, 1) := by decide +kernel
theorem dX6_refusal_88 : decode cX6_refusal 88 = .ok (.invokevirtual 64, 3) := by decide +kernel
theorem dX6_refusal_91 : decode cX6_refusal 91 = .ok (.ifCond .ne 5, 3) := by decide +kernel
theorem dX6_refusal_94 : decode cX6_refusal 94 = .ok (.iconst 1, 1) := by decide +kernel
theorem dX6_refusal_95 : decode cX6_refusal 95 = .ok (.ireturn, 1) := by decide +kernel
theorem dX6_refusal_96 : decode cX6_refusal 96 = .ok (.aload_n 0, 1) := by decide +kernel
theorem dX6_refusal_97 : decode cX6_refusal 97 = .ok (.getfield 35, 3) := by decide +kernel
theorem dX6_refusal_100 : decode cX6_refusal 100 = .ok (.bipush 60, 2) := by decide +kernel
theorem dX6_refusal_102 : decode cX6_refusal 102 = .ok (.if_icmp .lt 7, 3) := by decide +kernel
theorem dX6_refusal_105 : decode cX6_refusal 105 = .ok (.iconst 2, 1) := by decide +kernel
theorem dX6_refusal_106 : decode cX6_refusal 106 = .ok (.goto 4, 3) := by decide +kernel
theorem dX6_refusal_109 : decode cX6_refusal 109 = .ok (.iconst 0, 1) := by decide +kernel
theorem dX6_refusal_110 : decode cX6_refusal 110 = .ok (.ireturn, 1) := by decide +kernel
theorem dX6_refusal_111 : decode cX6_refusal 111 = .ok (.aload_n 0, 1) := by decide +kernel
theorem dX6_refusal_112 : decode cX6_refusal 112 = .ok (.iload_n 2, 1) := by decide +kernel
theorem dX6_refusal_113 : decode cX6_refusal 113 = .ok (.iconst 0, 1) := by decide +kernel
theorem dX6_refusal_114 : decode cX6_refusal 114 = .ok (.invokevirtual 67, 3) := by decide +kernel
theorem dX6_refusal_117 : decode cX6_refusal 117 = .ok (.ireturn, 1) := by decide +kernel
theorem dX6_refusal_118 : decode cX6_refusal 118 = .ok (.aload_n 0, 1) := by decide +kernel
theorem dX6_refusal_119 : decode cX6_refusal 119 = .ok (.iload_n 2, 1) := by decide +kernel
theorem dX6_refusal_120 : decode cX6_refusal 120 = .ok (.iconst 1, 1) := by decide +kernel
theorem dX6_refusal_121 : decode cX6_refusal 121 = .ok (.invokevirtual 67, 3) := by decide +kernel
theorem dX6_refusal_124 : decode cX6_refusal 124 = .ok (.ireturn, 1) := by decide +kernel
theorem dX6_refusal_125 : decode cX6_refusal 125 = .ok (.aload_n 0, 1) := by decide +kernel
theorem dX6_refusal_126 : decode cX6_refusal 126 = .ok (.iload_n 2, 1) := by decide +kernel
theorem dX6_refusal_127 : decode cX6_refusal 127 = .ok (.aload_n 0, 1) := by decide +kernel
theorem dX6_refusal_128 : decode cX6_refusal 128 = .ok (.getfield 18, 3) := by decide +kernel
theorem dX6_refusal_131 : decode cX6_refusal 131 = .ok (.iload_n 2, 1) := by decide +kernel
theorem dX6_refusal_132 : decode cX6_refusal 132 = .ok (.invokestatic 70, 3) := by decide +kernel
theorem dX6_refusal_135 : decode cX6_refusal 135 = .ok (.iload_n 3, 1) := by decide +kernel
theorem dX6_refusal_136 : decode cX6_refusal 136 = .ok (.if_icmp .ne 7, 3) := by decide +kernel
theorem dX6_refusal_139 : decode cX6_refusal 139 = .ok (.iconst 1, 1) := by decide +kernel
theorem dX6_refusal_140 : decode cX6_refusal 140 = .ok (.goto 4, 3) := by decide +kernel
theorem dX6_refusal_143 : decode cX6_refusal 143 = .ok (.iconst 0, 1) := by decide +kernel
theorem dX6_refusal_144 : decode cX6_refusal 144 = .ok (.invokevirtual 60, 3) := by decide +kernel
theorem dX6_refusal_147 : decode cX6_refusal 147 = .ok (.ireturn, 1) := by decide +kernel
theorem dX6_refusal_148 : decode cX6_refusal 148 = .ok (.iconst 0, 1) := by decide +kernel
theorem dX6_refusal_149 : decode cX6_refusal 149 = .ok (.ireturn, 1) := by decide +kernel
theorem dX6_refusalOfNode_0 : decode cX6_refusalOfNode 0 = .ok (.aload_n 0, 1) := by decide +kernel
theorem dX6_refusalOfNode_1 : decode cX6_refusalOfNode 1 = .ok (.iload_n 1, 1) := by decide +kernel
theorem dX6_refusalOfNode_2 : decode cX6_refusalOfNode 2 = .ok (.invokevirtual 64, 3) := by decide +kernel
theorem dX6_refusalOfNode_5 : decode cX6_refusalOfNode 5 = .ok (.ifCond .ne 5, 3) := by decide +kernel
theorem dX6_refusalOfNode_8 : decode cX6_refusalOfNode 8 = .ok (.iconst 1, 1) := by decide +kernel
theorem dX6_refusalOfNode_9 : decode cX6_refusalOfNode 9 = .ok (.ireturn, 1) := by decide +kernel
theorem dX6_refusalOfNode_10 : decode cX6_refusalOfNode 10 = .ok (.iload_n 2, 1) := by decide +kernel
theorem dX6_refusalOfNode_11 : decode cX6_refusalOfNode 11 = .ok (.ifCond .eq 7, 3) := by decide +kernel
theorem dX6_refusalOfNode_14 : decode cX6_refusalOfNode 14 = .ok (.iconst 4, 1) := by decide +kernel
theorem dX6_refusalOfNode_15 : decode cX6_refusalOfNode 15 = .ok (.goto 4, 3) := by decide +kernel
theorem dX6_refusalOfNode_18 : decode cX6_refusalOfNode 18 = .ok (.iconst 0, 1) := by decide +kernel
theorem dX6_refusalOfNode_19 : decode cX6_refusalOfNode 19 = .ok (.ireturn, 1) := by decide +kernel
theorem dX6_refusalOfArc_0 : decode cX6_refusalOfArc 0 = .ok (.aload_n 0, 1) := by decide +kernel
theorem dX6_refusalOfArc_1 : decode cX6_refusalOfArc 1 = .ok (.iload_n 1, 1) := by decide +kernel
theorem dX6_refusalOfArc_2 : decode cX6_refusalOfArc 2 = .ok (.invokevirtual 52, 3) := by decide +kernel
theorem dX6_refusalOfArc_5 : decode cX6_refusalOfArc 5 = .ok (.ifCond .ne 5, 3) := by decide +kernel
theorem dX6_refusalOfArc_8 : decode cX6_refusalOfArc 8 = .ok (.iconst 3, 1) := by decide +kernel
theorem dX6_refusalOfArc_9 : decode cX6_refusalOfArc 9 = .ok (.ireturn, 1) := by decide +kernel
theorem dX6_refusalOfArc_10 : decode cX6_refusalOfArc 10 = .ok (.aload_n 0, 1) := by decide +kernel
theorem dX6_refusalOfArc_11 : decode cX6_refusalOfArc 11 = .ok (.iload_n 1, 1) := by decide +kernel
theorem dX6_refusalOfArc_12 : decode cX6_refusalOfArc 12 = .ok (.invokevirtual 74, 3) := by decide +kernel
theorem dX6_refusalOfArc_15 : decode cX6_refusalOfArc 15 = .ok (.iload_n 2, 1) := by decide +kernel
theorem dX6_refusalOfArc_16 : decode cX6_refusalOfArc 16 = .ok (.if_icmp .ne 7, 3) := by decide +kernel
theorem dX6_refusalOfArc_19 : decode cX6_refusalOfArc 19 = .ok (.iconst 4, 1) := by decide +kernel
theorem dX6_refusalOfArc_20 : decode cX6_refusalOfArc 20 = .ok (.goto 4, 3) := by decide +kernel
theorem dX6_refusalOfArc_23 : decode cX6_refusalOfArc 23 = .ok (.iconst 0, 1) := by decide +kernel
theorem dX6_refusalOfArc_24 : decode cX6_refusalOfArc 24 = .ok (.ireturn, 1) := by decide +kernel
theorem dX6_perform_0 : decode cX6_perform 0 = .ok (.iload_n 1, 1) := by decide +kernel
theorem dX6_perform_1 : decode cX6_perform 1 = .ok (.tableswitch 122 0 6 #[43, 51, 59, 67, 76, 95, 110], 43) := by decide +kernel
theorem dX6_perform_44 : decode cX6_perform 44 = .ok (.aload_n 0, 1) := by decide +kernel
theorem dX6_perform_45 : decode cX6_perform 45 = .ok (.iload_n 2, 1) := by decide +kernel
theorem dX6_perform_46 : decode cX6_perform 46 = .ok (.invokevirtual 21, 3) := by decide +kernel
theorem dX6_perform_49 : decode cX6_perform 49 = .ok (.goto 74, 3) := by decide +kernel
theorem dX6_perform_52 : decode cX6_perform 52 = .ok (.aload_n 0, 1) := by decide +kernel
theorem dX6_perform_53 : decode cX6_perform 53 = .ok (.iload_n 2, 1) := by decide +kernel
theorem dX6_perform_54 : decode cX6_perform 54 = .ok (.putfield 29, 3) := by decide +kernel
theorem dX6_perform_57 : decode cX6_perform 57 = .ok (.goto 66, 3) := by decide +kernel
theorem dX6_perform_60 : decode cX6_perform 60 = .ok (.aload_n 0, 1) := by decide +kernel
theorem dX6_perform_61 : decode cX6_perform 61 = .ok (.iload_n 2, 1) := by decide +kernel
theorem dX6_perform_62 : decode cX6_perform 62 = .ok (.putfield 32, 3) := by decide +kernel
theorem dX6_perform_65 : decode cX6_perform 65 = .ok (.goto 58, 3) := by decide +kernel
theorem dX6_perform_68 : decode cX6_perform 68 = .ok (.aload_n 0, 1) := by decide +kernel
theorem dX6_perform_69 : decode cX6_perform 69 = .ok (.iload_n 2, 1) := by decide +kernel
theorem dX6_perform_70 : decode cX6_perform 70 = .ok (.iload_n 3, 1) := by decide +kernel
theorem dX6_perform_71 : decode cX6_perform 71 = .ok (.invokevirtual 77, 3) := by decide +kernel
theorem dX6_perform_74 : decode cX6_perform 74 = .ok (.goto 49, 3) := by decide +kernel
theorem dX6_perform_77 : decode cX6_perform 77 = .ok (.aload_n 0, 1) := by decide +kernel
theorem dX6_perform_78 : decode cX6_perform 78 = .ok (.dup, 1) := by decide +kernel
theorem dX6_perform_79 : decode cX6_perform 79 = .ok (.getfield 38, 3) := by decide +kernel
theorem dX6_perform_82 : decode cX6_perform 82 = .ok (.lconst 1, 1) := by decide +kernel
theorem dX6_perform_83 : decode cX6_perform 83 = .ok (.iload_n 2, 1) := by decide +kernel
theorem dX6_perform_84 : decode cX6_perform 84 = .ok (.lshl, 1) := by decide +kernel
theorem dX6_perform_85 : decode cX6_perform 85 = .ok (.ldc2_w 81, 3) := by decide +kernel
theorem dX6_perform_88 : decode cX6_perform 88 = .ok (.lxor, 1) := by decide +kernel
theorem dX6_perform_89 : decode cX6_perform 89 = .ok (.land, 1) := by decide +kernel
theorem dX6_perform_90 : decode cX6_perform 90 = .ok (.putfield 38, 3) := by decide +kernel
theorem dX6_perform_93 : decode cX6_perform 93 = .ok (.goto 30, 3) := by decide +kernel
theorem dX6_perform_96 : decode cX6_perform 96 = .ok (.aload_n 0, 1) := by decide +kernel
theorem dX6_perform_97 : decode cX6_perform 97 = .ok (.dup, 1) := by decide +kernel
theorem dX6_perform_98 : decode cX6_perform 98 = .ok (.getfield 38, 3) := by decide +kernel
theorem dX6_perform_101 : decode cX6_perform 101 = .ok (.lconst 1, 1) := by decide +kernel
theorem dX6_perform_102 : decode cX6_perform 102 = .ok (.iload_n 2, 1) := by decide +kernel
theorem dX6_perform_103 : decode cX6_perform 103 = .ok (.lshl, 1) := by decide +kernel
theorem dX6_perform_104 : decode cX6_perform 104 = .ok (.lor, 1) := by decide +kernel
theorem dX6_perform_105 : decode cX6_perform 105 = .ok (.putfield 38, 3) := by decide +kernel
theorem dX6_perform_108 : decode cX6_perform 108 = .ok (.goto 15, 3) := by decide +kernel
theorem dX6_perform_111 : decode cX6_perform 111 = .ok (.aload_n 0, 1) := by decide +kernel
theorem dX6_perform_112 : decode cX6_perform 112 = .ok (.getfield 18, 3) := by decide +kernel
theorem dX6_perform_115 : decode cX6_perform 115 = .ok (.iload_n 2, 1) := by decide +kernel
theorem dX6_perform_116 : decode cX6_perform 116 = .ok (.iload_n 3, 1) := by decide +kernel
theorem dX6_perform_117 : decode cX6_perform 117 = .ok (.invokestatic 83, 3) := by decide +kernel
theorem dX6_perform_120 : decode cX6_perform 120 = .ok (.goto 3, 3) := by decide +kernel
theorem dX6_perform_123 : decode cX6_perform 123 = .ok (.return_, 1) := by decide +kernel
theorem dX6_addArc_0 : decode cX6_addArc 0 = .ok (.aload_n 0, 1) := by decide +kernel
theorem dX6_addArc_1 : decode cX6_addArc 1 = .ok (.getfield 9, 3) := by decide +kernel
theorem dX6_addArc_4 : decode cX6_addArc 4 = .ok (.aload_n 0, 1) := by decide +kernel
theorem dX6_addArc_5 : decode cX6_addArc 5 = .ok (.getfield 35, 3) := by decide +kernel
theorem dX6_addArc_8 : decode cX6_addArc 8 = .ok (.iload_n 1, 1) := by decide +kernel
theorem dX6_addArc_9 : decode cX6_addArc 9 = .ok (.invokestatic 83, 3) := by decide +kernel
theorem dX6_addArc_12 : decode cX6_addArc 12 = .ok (.aload_n 0, 1) := by decide +kernel
theorem dX6_addArc_13 : decode cX6_addArc 13 = .ok (.getfield 15, 3) := by decide +kernel
theorem dX6_addArc_16 : decode cX6_addArc 16 = .ok (.aload_n 0, 1) := by decide +kernel
theorem dX6_addArc_17 : decode cX6_addArc 17 = .ok (.getfield 35, 3) := by decide +kernel
theorem dX6_addArc_20 : decode cX6_addArc 20 = .ok (.iload_n 2, 1) := by decide +kernel
theorem dX6_addArc_21 : decode cX6_addArc 21 = .ok (.invokestatic 83, 3) := by decide +kernel
theorem dX6_addArc_24 : decode cX6_addArc 24 = .ok (.aload_n 0, 1) := by decide +kernel
theorem dX6_addArc_25 : decode cX6_addArc 25 = .ok (.dup, 1) := by decide +kernel
theorem dX6_addArc_26 : decode cX6_addArc 26 = .ok (.getfield 38, 3) := by decide +kernel
theorem dX6_addArc_29 : decode cX6_addArc 29 = .ok (.lconst 1, 1) := by decide +kernel
theorem dX6_addArc_30 : decode cX6_addArc 30 = .ok (.aload_n 0, 1) := by decide +kernel
theorem dX6_addArc_31 : decode cX6_addArc 31 = .ok (.getfield 35, 3) := by decide +kernel
theorem dX6_addArc_34 : decode cX6_addArc 34 = .ok (.lshl, 1) := by decide +kernel
theorem dX6_addArc_35 : decode cX6_addArc 35 = .ok (.lor, 1) := by decide +kernel
theorem dX6_addArc_36 : decode cX6_addArc 36 = .ok (.putfield 38, 3) := by decide +kernel
theorem dX6_addArc_39 : decode cX6_addArc 39 = .ok (.aload_n 0, 1) := by decide +kernel
theorem dX6_addArc_40 : decode cX6_addArc 40 = .ok (.dup, 1) := by decide +kernel
theorem dX6_addArc_41 : decode cX6_addArc 41 = .ok (.getfield 35, 3) := by decide +kernel
theorem dX6_addArc_44 : decode cX6_addArc 44 = .ok (.iconst 1, 1) := by decide +kernel
theorem dX6_addArc_45 : decode cX6_addArc 45 = .ok (.iadd, 1) := by decide +kernel
theorem dX6_addArc_46 : decode cX6_addArc 46 = .ok (.putfield 35, 3) := by decide +kernel
theorem dX6_addArc_49 : decode cX6_addArc 49 = .ok (.return_, 1) := by decide +kernel
theorem dX6_fill_0 : decode cX6_fill 0 = .ok (.aload_n 1, 1) := by decide +kernel
theorem dX6_fill_1 : decode cX6_fill 1 = .ok (.iconst 0, 1) := by decide +kernel
theorem dX6_fill_2 : decode cX6_fill 2 = .ok (.invokestatic 42, 3) := by decide +kernel
theorem dX6_fill_5 : decode cX6_fill 5 = .ok (.iconst 0, 1) := by decide +kernel
theorem dX6_fill_6 : decode cX6_fill 6 = .ok (.istore_n 3, 1) := by decide +kernel
theorem dX6_fill_7 : decode cX6_fill 7 = .ok (.iload_n 3, 1) := by decide +kernel
theorem dX6_fill_8 : decode cX6_fill 8 = .ok (.aload_n 0, 1) := by decide +kernel
theorem dX6_fill_9 : decode cX6_fill 9 = .ok (.getfield 35, 3) := by decide +kernel
theorem dX6_fill_12 : decode cX6_fill 12 = .ok (.if_icmp .ge 62, 3) := by decide +kernel
theorem dX6_fill_15 : decode cX6_fill 15 = .ok (.iload_n 3, 1) := by decide +kernel
theorem dX6_fill_16 : decode cX6_fill 16 = .ok (.bipush 60, 2) := by decide +kernel
theorem dX6_fill_18 : decode cX6_fill 18 = .ok (.if_icmp .ge 56, 3) := by decide +kernel
theorem dX6_fill_21 : decode cX6_fill 21 = .ok (.iload_n 3, 1) := by decide +kernel
theorem dX6_fill_22 : decode cX6_fill 22 = .ok (.iload_n 2, 1) := by decide +kernel
theorem dX6_fill_23 : decode cX6_fill 23 = .ok (.if_icmp .eq 45, 3) := by decide +kernel
theorem dX6_fill_26 : decode cX6_fill 26 = .ok (.aload_n 0, 1) := by decide +kernel
theorem dX6_fill_27 : decode cX6_fill 27 = .ok (.iload_n 3, 1) := by decide +kernel
theorem dX6_fill_28 : decode cX6_fill 28 = .ok (.invokevirtual 74, 3) := by decide +kernel
theorem dX6_fill_31 : decode cX6_fill 31 = .ok (.ifCond .eq 37, 3) := by decide +kernel
theorem dX6_fill_34 : decode cX6_fill 34 = .ok (.aload_n 0, 1) := by decide +kernel
theorem dX6_fill_35 : decode cX6_fill 35 = .ok (.getfield 9, 3) := by decide +kernel
theorem dX6_fill_38 : decode cX6_fill 38 = .ok (.iload_n 3, 1) := by decide +kernel
theorem dX6_fill_39 : decode cX6_fill 39 = .ok (.invokestatic 70, 3) := by decide +kernel
theorem dX6_fill_42 : decode cX6_fill 42 = .ok (.istore 4, 2) := by decide +kernel
theorem dX6_fill_44 : decode cX6_fill 44 = .ok (.aload_n 1, 1) := by decide +kernel
theorem dX6_fill_45 : decode cX6_fill 45 = .ok (.iload 4, 2) := by decide +kernel
theorem dX6_fill_47 : decode cX6_fill 47 = .ok (.aload_n 1, 1) := by decide +kernel
theorem dX6_fill_48 : decode cX6_fill 48 = .ok (.iload 4, 2) := by decide +kernel
theorem dX6_fill_50 : decode cX6_fill 50 = .ok (.invokestatic 70, 3) := by decide +kernel
theorem dX6_fill_53 : decode cX6_fill 53 = .ok (.aload_n 0, 1) := by decide +kernel
theorem dX6_fill_54 : decode cX6_fill 54 = .ok (.getfield 15, 3) := by decide +kernel
theorem dX6_fill_57 : decode cX6_fill 57 = .ok (.iload_n 3, 1) := by decide +kernel
theorem dX6_fill_58 : decode cX6_fill 58 = .ok (.invokestatic 70, 3) := by decide +kernel
theorem dX6_fill_61 : decode cX6_fill 61 = .ok (.invokestatic 56, 3) := by decide +kernel
theorem dX6_fill_64 : decode cX6_fill 64 = .ok (.ior, 1) := by decide +kernel
theorem dX6_fill_65 : decode cX6_fill 65 = .ok (.invokestatic 83, 3) := by decide +kernel
theorem dX6_fill_68 : decode cX6_fill 68 = .ok (.iinc 3 1, 3) := by decide +kernel
theorem dX6_fill_71 : decode cX6_fill 71 = .ok (.goto (-64), 3) := by decide +kernel
theorem dX6_fill_74 : decode cX6_fill 74 = .ok (.return_, 1) := by decide +kernel
theorem dX7_init_0 : decode cX7_init 0 = .ok (.aload_n 0, 1) := by decide +kernel
theorem dX7_init_1 : decode cX7_init 1 = .ok (.invokespecial 3, 3) := by decide +kernel
theorem dX7_init_4 : decode cX7_init 4 = .ok (.aload_n 0, 1) := by decide +kernel
theorem dX7_init_5 : decode cX7_init 5 = .ok (.sipush 400, 3) := by decide +kernel
theorem dX7_init_8 : decode cX7_init 8 = .ok (.newarray .int, 2) := by decide +kernel
theorem dX7_init_10 : decode cX7_init 10 = .ok (.putfield 9, 3) := by decide +kernel
theorem dX7_init_13 : decode cX7_init 13 = .ok (.aload_n 0, 1) := by decide +kernel
theorem dX7_init_14 : decode cX7_init 14 = .ok (.aload_n 1, 1) := by decide +kernel
theorem dX7_init_15 : decode cX7_init 15 = .ok (.putfield 15, 3) := by decide +kernel
theorem dX7_init_18 : decode cX7_init 18 = .ok (.return_, 1) := by decide +kernel
theorem dX7_rewind_0 : decode cX7_rewind 0 = .ok (.aload_n 0, 1) := by decide +kernel
theorem dX7_rewind_1 : decode cX7_rewind 1 = .ok (.iconst 0, 1) := by decide +kernel
theorem dX7_rewind_2 : decode cX7_rewind 2 = .ok (.putfield 19, 3) := by decide +kernel
theorem dX7_rewind_5 : decode cX7_rewind 5 = .ok (.return_, 1) := by decide +kernel
theorem dX7_next_0 : decode cX7_next 0 = .ok (.iconst 0, 1) := by decide +kernel
theorem dX7_next_1 : decode cX7_next 1 = .ok (.istore_n 1, 1) := by decide +kernel
theorem dX7_next_2 : decode cX7_next 2 = .ok (.iload_n 1, 1) := by decide +kernel
theorem dX7_next_3 : decode cX7_next 3 = .ok (.sipush 400, 3) := by decide +kernel
theorem dX7_next_6 : decode cX7_next 6 = .ok (.if_icmp .ge 35, 3) := by decide +kernel
theorem dX7_next_9 : decode cX7_next 9 = .ok (.aload_n 0, 1) := by decide +kernel
theorem dX7_next_10 : decode cX7_next 10 = .ok (.getfield 15, 3) := by decide +kernel
theorem dX7_next_13 : decode cX7_next 13 = .ok (.aload_n 0, 1) := by decide +kernel
theorem dX7_next_14 : decode cX7_next 14 = .ok (.getfield 19, 3) := by decide +kernel
theorem dX7_next_17 : decode cX7_next 17 = .ok (.invokevirtual 23, 3) := by decide +kernel
theorem dX7_next_20 : decode cX7_next 20 = .ok (.bipush 32, 2) := by decide +kernel
theorem dX7_next_22 : decode cX7_next 22 = .ok (.if_icmp .ne 19, 3) := by decide +kernel
theorem dX7_next_25 : decode cX7_next 25 = .ok (.aload_n 0, 1) := by decide +kernel
theorem dX7_next_26 : decode cX7_next 26 = .ok (.dup, 1) := by decide +kernel
theorem dX7_next_27 : decode cX7_next 27 = .ok (.getfield 19, 3) := by decide +kernel
theorem dX7_next_30 : decode cX7_next 30 = .ok (.iconst 1, 1) := by decide +kernel
theorem dX7_next_31 : decode cX7_next 31 = .ok (.iadd, 1) := by decide +kernel
theorem dX7_next_32 : decode cX7_next 32 = .ok (.putfield 19, 3) := by decide +kernel
theorem dX7_next_35 : decode cX7_next 35 = .ok (.iinc 1 1, 3) := by decide +kernel
theorem dX7_next_38 : decode cX7_next 38 = .ok (.goto (-36), 3) := by decide +kernel
theorem dX7_next_41 : decode cX7_next 41 = .ok (.aload_n 0, 1) := by decide +kernel
theorem dX7_next_42 : decode cX7_next 42 = .ok (.getfield 19, 3) := by decide +kernel
theorem dX7_next_45 : decode cX7_next 45 = .ok (.ireturn, 1) := by decide +kernel
theorem dX7_isAtEnd_0 : decode cX7_isAtEnd 0 = .ok (.aload_n 0, 1) := by decide +kernel
theorem dX7_isAtEnd_1 : decode cX7_isAtEnd 1 = .ok (.invokevirtual 29, 3) := by decide +kernel
theorem dX7_isAtEnd_4 : decode cX7_isAtEnd 4 = .ok (.aload_n 0, 1) := by decide +kernel
theorem dX7_isAtEnd_5 : decode cX7_isAtEnd 5 = .ok (.getfield 15, 3) := by decide +kernel
theorem dX7_isAtEnd_8 : decode cX7_isAtEnd 8 = .ok (.getfield 33, 3) := by decide +kernel
theorem dX7_isAtEnd_11 : decode cX7_isAtEnd 11 = .ok (.if_icmp .lt 7, 3) := by decide +kernel
theorem dX7_isAtEnd_14 : decode cX7_isAtEnd 14 = .ok (.iconst 1, 1) := by decide +kernel
theorem dX7_isAtEnd_15 : decode cX7_isAtEnd 15 = .ok (.goto 4, 3) := by decide +kernel
theorem dX7_isAtEnd_18 : decode cX7_isAtEnd 18 = .ok (.iconst 0, 1) := by decide +kernel
theorem dX7_isAtEnd_19 : decode cX7_isAtEnd 19 = .ok (.ireturn, 1) := by decide +kernel
theorem dX7_take_0 : decode cX7_take 0 = .ok (.aload_n 0, 1) := by decide +kernel
theorem dX7_take_1 : decode cX7_take 1 = .ok (.getfield 15, 3) := by decide +kernel
theorem dX7_take_4 : decode cX7_take 4 = .ok (.aload_n 0, 1) := by decide +kernel
theorem dX7_take_5 : decode cX7_take 5 = .ok (.invokevirtual 29, 3) := by decide +kernel
theorem dX7_take_8 : decode cX7_take 8 = .ok (.invokevirtual 23, 3) := by decide +kernel
theorem dX7_take_11 : decode cX7_take 11 = .ok (.iload_n 1, 1) := by decide +kernel
theorem dX7_take_12 : decode cX7_take 12 = .ok (.if_icmp .eq 5, 3) := by decide +kernel
theorem dX7_take_15 : decode cX7_take 15 = .ok (.iconst 0, 1) := by decide +kernel
theorem dX7_take_16 : decode cX7_take 16 = .ok (.ireturn, 1) := by decide +kernel
theorem dX7_take_17 : decode cX7_take 17 = .ok (.aload_n 0, 1) := by decide +kernel
theorem dX7_take_18 : decode cX7_take 18 = .ok (.dup, 1) := by decide +kernel
theorem dX7_take_19 : decode cX7_take 19 = .ok (.getfield 19, 3) := by decide +kernel
theorem dX7_take_22 : decode cX7_take 22 = .ok (.iconst 1, 1) := by decide +kernel
theorem dX7_take_23 : decode cX7_take 23 = .ok (.iadd, 1) := by decide +kernel
theorem dX7_take_24 : decode cX7_take 24 = .ok (.putfield 19, 3) := by decide +kernel
theorem dX7_take_27 : decode cX7_take 27 = .ok (.iconst 1, 1) := by decide +kernel
theorem dX7_take_28 : decode cX7_take 28 = .ok (.ireturn, 1) := by decide +kernel
theorem dX7_readAct_0 : decode cX7_readAct 0 = .ok (.aload_n 0, 1) := by decide +kernel
theorem dX7_readAct_1 : decode cX7_readAct 1 = .ok (.aload_n 0, 1) := by decide +kernel
theorem dX7_readAct_2 : decode cX7_readAct 2 = .ok (.invokevirtual 29, 3) := by decide +kernel
theorem dX7_readAct_5 : decode cX7_readAct 5 = .ok (.putfield 36, 3) := by decide +kernel
theorem dX7_readAct_8 : decode cX7_readAct 8 = .ok (.aload_n 0, 1) := by decide +kernel
theorem dX7_readAct_9 : decode cX7_readAct 9 = .ok (.iconst 0, 1) := by decide +kernel
theorem dX7_readAct_10 : decode cX7_readAct 10 = .ok (.putfield 39, 3) := by decide +kernel
theorem dX7_readAct_13 : decode cX7_readAct 13 = .ok (.aload_n 0, 1) := by decide +kernel
theorem dX7_readAct_14 : decode cX7_readAct 14 = .ok (.invokevirtual 42, 3) := by decide +kernel
theorem dX7_readAct_17 : decode cX7_readAct 17 = .ok (.istore_n 1, 1) := by decide +kernel
theorem dX7_readAct_18 : decode cX7_readAct 18 = .ok (.iload_n 1, 1) := by decide +kernel
theorem dX7_readAct_19 : decode cX7_readAct 19 = .ok (.iconst (-1), 1) := by decide +kernel
theorem dX7_readAct_20 : decode cX7_readAct 20 = .ok (.if_icmp .ne 13, 3) := by decide +kernel
theorem dX7_readAct_23 : decode cX7_readAct 23 = .ok (.aload_n 0, 1) := by decide +kernel
theorem dX7_readAct_24 : decode cX7_readAct 24 = .ok (.aload_n 0, 1) := by decide +kernel
theorem dX7_readAct_25 : decode cX7_readAct 25 = .ok (.getfield 36, 3) := by decide +kernel
theorem dX7_readAct_28 : decode cX7_readAct 28 = .ok (.putfield 45, 3) := by decide +kernel
theorem dX7_readAct_31 : decode cX7_readAct 31 = .ok (.iconst (-1), 1) := by decide +kernel
theorem dX7_readAct_32 : decode cX7_readAct 32 = .ok (.ireturn, 1) := by decide +kernel
theorem dX7_readAct_33 : decode cX7_readAct 33 = .ok (.iconst 0, 1) := by decide +kernel
theorem dX7_readAct_34 : decode cX7_readAct 34 = .ok (.istore_n 2, 1) := by decide +kernel
theorem dX7_readAct_35 : decode cX7_readAct 35 = .ok (.iload_n 2, 1) := by decide +kernel
theorem dX7_readAct_36 : decode cX7_readAct 36 = .ok (.sipush 400, 3) := by decide +kernel
theorem dX7_readAct_39 : decode cX7_readAct 39 = .ok (.if_icmp .ge 38, 3) := by decide +kernel
theorem dX7_readAct_42 : decode cX7_readAct 42 = .ok (.aload_n 0, 1) := by decide +kernel
theorem dX7_readAct_43 : decode cX7_readAct 43 = .ok (.iload_n 1, 1) := by decide +kernel
theorem dX7_readAct_44 : decode cX7_readAct 44 = .ok (.invokevirtual 48, 3) := by decide +kernel
theorem dX7_readAct_47 : decode cX7_readAct 47 = .ok (.ifCond .ne 5, 3) := by decide +kernel
theorem dX7_readAct_50 : decode cX7_readAct 50 = .ok (.iconst (-1), 1) := by decide +kernel
theorem dX7_readAct_51 : decode cX7_readAct 51 = .ok (.ireturn, 1) := by decide +kernel
theorem dX7_readAct_52 : decode cX7_readAct 52 = .ok (.iload_n 1, 1) := by decide +kernel
theorem dX7_readAct_53 : decode cX7_readAct 53 = .ok (.invokestatic 52, 3) := by decide +kernel
theorem dX7_readAct_56 : decode cX7_readAct 56 = .ok (.ifCond .eq 21, 3) := by decide +kernel
theorem dX7_readAct_59 : decode cX7_readAct 59 = .ok (.aload_n 0, 1) := by decide +kernel
theorem dX7_readAct_60 : decode cX7_readAct 60 = .ok (.bipush 44, 2) := by decide +kernel
theorem dX7_readAct_62 : decode cX7_readAct 62 = .ok (.invokevirtual 55, 3) := by decide +kernel
theorem dX7_readAct_65 : decode cX7_readAct 65 = .ok (.ifCond .ne 6, 3) := by decide +kernel
theorem dX7_readAct_68 : decode cX7_readAct 68 = .ok (.goto 9, 3) := by decide +kernel
theorem dX7_readAct_71 : decode cX7_readAct 71 = .ok (.iinc 2 1, 3) := by decide +kernel
theorem dX7_readAct_74 : decode cX7_readAct 74 = .ok (.goto (-39), 3) := by decide +kernel
theorem dX7_readAct_77 : decode cX7_readAct 77 = .ok (.iload_n 1, 1) := by decide +kernel
theorem dX7_readAct_78 : decode cX7_readAct 78 = .ok (.ireturn, 1) := by decide +kernel
theorem dX7_readWord_0 : decode cX7_readWord 0 = .ok (.aload_n 0, 1) := by decide +kernel
theorem dX7_readWord_1 : decode cX7_readWord 1 = .ok (.getfield 19, 3) := by decide +kernel
theorem dX7_readWord_4 : decode cX7_readWord 4 = .ok (.istore_n 1, 1) := by decide +kernel
theorem dX7_readWord_5 : decode cX7_readWord 5 = .ok (.iconst 0, 1) := by decide +kernel
theorem dX7_readWord_6 : decode cX7_readWord 6 = .ok (.istore_n 2, 1) := by decide +kernel
theorem dX7_readWord_7 : decode cX7_readWord 7 = .ok (.iload_n 2, 1) := by decide +kernel
theorem dX7_readWord_8 : decode cX7_readWord 8 = .ok (.sipush 400, 3) := by decide +kernel
theorem dX7_readWord_11 : decode cX7_readWord 11 = .ok (.if_icmp .ge 36, 3) := by decide +kernel
theorem dX7_readWord_14 : decode cX7_readWord 14 = .ok (.aload_n 0, 1) := by decide +kernel
theorem dX7_readWord_15 : decode cX7_readWord 15 = .ok (.getfield 15, 3) := by decide +kernel
theorem dX7_readWord_18 : decode cX7_readWord 18 = .ok (.aload_n 0, 1) := by decide +kernel
theorem dX7_readWord_19 : decode cX7_readWord 19 = .ok (.getfield 19, 3) := by decide +kernel
theorem dX7_readWord_22 : decode cX7_readWord 22 = .ok (.invokevirtual 23, 3) := by decide +kernel
theorem dX7_readWord_25 : decode cX7_readWord 25 = .ok (.invokestatic 58, 3) := by decide +kernel
theorem dX7_readWord_28 : decode cX7_readWord 28 = .ok (.ifCond .eq 19, 3) := by decide +kernel
theorem dX7_readWord_31 : decode cX7_readWord 31 = .ok (.aload_n 0, 1) := by decide +kernel
theorem dX7_readWord_32 : decode cX7_readWord 32 = .ok (.dup, 1) := by decide +kernel
theorem dX7_readWord_33 : decode cX7_readWord 33 = .ok (.getfield 19, 3) := by decide +kernel
theorem dX7_readWord_36 : decode cX7_readWord 36 = .ok (.iconst 1, 1) := by decide +kernel
theorem dX7_readWord_37 : decode cX7_readWord 37 = .ok (.iadd, 1) := by decide +kernel
theorem dX7_readWord_38 : decode cX7_readWord 38 = .ok (.putfield 19, 3) := by decide +kernel
theorem dX7_readWord_41 : decode cX7_readWord 41 = .ok (.iinc 2 1, 3) := by decide +kernel
theorem dX7_readWord_44 : decode cX7_readWord 44 = .ok (.goto (-37), 3) := by decide +kernel
theorem dX7_readWord_47 : decode cX7_readWord 47 = .ok (.aload_n 0, 1) := by decide +kernel
theorem dX7_readWord_48 : decode cX7_readWord 48 = .ok (.iload_n 1, 1) := by decide +kernel
theorem dX7_readWord_49 : decode cX7_readWord 49 = .ok (.ldc 61, 2) := by decide +kernel
theorem dX7_readWord_51 : decode cX7_readWord 51 = .ok (.invokevirtual 63, 3) := by decide +kernel
theorem dX7_readWord_54 : decode cX7_readWord 54 = .ok (.ifCond .eq 5, 3) := by decide +kernel
theorem dX7_readWord_57 : decode cX7_readWord 57 = .ok (.iconst 0, 1) := by decide +kernel
theorem dX7_readWord_58 : decode cX7_readWord 58 = .ok (.ireturn, 1) := by decide +kernel
theorem dX7_readWord_59 : decode cX7_readWord 59 = .ok (.aload_n 0, 1) := by decide +kernel
theorem dX7_readWord_60 : decode cX7_readWord 60 = .ok (.iload_n 1, 1) := by decide +kernel
theorem dX7_readWord_61 : decode cX7_readWord 61 = .ok (.ldc 67, 2) := by decide +kernel
theorem dX7_readWord_63 : decode cX7_readWord 63 = .ok (.invokevirtual 63, 3) := by decide +kernel
theorem dX7_readWord_66 : decode cX7_readWord 66 = .ok (.ifCond .eq 5, 3) := by decide +kernel
theorem dX7_readWord_69 : decode cX7_readWord 69 = .ok (.iconst 1, 1) := by decide +kernel
theorem dX7_readWord_70 : decode cX7_readWord 70 = .ok (.ireturn, 1) := by decide +kernel
theorem dX7_readWord_71 : decode cX7_readWord 71 = .ok (.aload_n 0, 1) := by decide +kernel
theorem dX7_readWord_72 : decode cX7_readWord 72 = .ok (.iload_n 1, 1) := by decide +kernel
theorem dX7_readWord_73 : decode cX7_readWord 73 = .ok (.ldc 69, 2) := by decide +kernel
theorem dX7_readWord_75 : decode cX7_readWord 75 = .ok (.invokevirtual 63, 3) := by decide +kernel
theorem dX7_readWord_78 : decode cX7_readWord 78 = .ok (.ifCond .eq 5, 3) := by decide +kernel
theorem dX7_readWord_81 : decode cX7_readWord 81 = .ok (.iconst 2, 1) := by decide +kernel
theorem dX7_readWord_82 : decode cX7_readWord 82 = .ok (.ireturn, 1) := by decide +kernel
theorem dX7_readWord_83 : decode cX7_readWord 83 = .ok (.aload_n 0, 1) := by decide +kernel
theorem dX7_readWord_84 : decode cX7_readWord 84 = .ok (.iload_n 1, 1) := by decide +kernel
theorem dX7_readWord_85 : decode cX7_readWord 85 = .ok (.ldc 71, 2) := by decide +kernel
theorem dX7_readWord_87 : decode cX7_readWord 87 = .ok (.invokevirtual 63, 3) := by decide +kernel
theorem dX7_readWord_90 : decode cX7_readWord 90 = .ok (.ifCond .eq 5, 3) := by decide +kernel
theorem dX7_readWord_93 : decode cX7_readWord 93 = .ok (.iconst 3, 1) := by decide +kernel
theorem dX7_readWord_94 : decode cX7_readWord 94 = .ok (.ireturn, 1) := by decide +kernel
theorem dX7_readWord_95 : decode cX7_readWord 95 = .ok (.aload_n 0, 1) := by decide +kernel
theorem dX7_readWord_96 : decode cX7_readWord 96 = .ok (.iload_n 1, 1) := by decide +kernel
theorem dX7_readWord_97 : decode cX7_readWord 97 = .ok (.ldc 73, 2) := by decide +kernel
theorem dX7_readWord_99 : decode cX7_readWord 99 = .ok (.invokevirtual 63, 3) := by decide +kernel
theorem dX7_readWord_102 : decode cX7_readWord 102 = .ok (.ifCond .eq 5, 3) := by decide +kernel
theorem dX7_readWord_105 : decode cX7_readWord 105 = .ok (.iconst 4, 1) := by decide +kernel
theorem dX7_readWord_106 : decode cX7_readWord 106 = .ok (.ireturn, 1) := by decide +kernel
theorem dX7_readWord_107 : decode cX7_readWord 107 = .ok (.aload_n 0, 1) := by decide +kernel
theorem dX7_readWord_108 : decode cX7_readWord 108 = .ok (.iload_n 1, 1) := by decide +kernel
theorem dX7_readWord_109 : decode cX7_readWord 109 = .ok (.ldc 75, 2) := by decide +kernel
theorem dX7_readWord_111 : decode cX7_readWord 111 = .ok (.invokevirtual 63, 3) := by decide +kernel
theorem dX7_readWord_114 : decode cX7_readWord 114 = .ok (.ifCond .eq 5, 3) := by decide +kernel
theorem dX7_readWord_117 : decode cX7_readWord 117 = .ok (.iconst 5, 1) := by decide +kernel
theorem dX7_readWord_118 : decode cX7_readWord 118 = .ok (.ireturn, 1) := by decide +kernel
theorem dX7_readWord_119 : decode cX7_readWord 119 = .ok (.aload_n 0, 1) := by decide +kernel
theorem dX7_readWord_120 : decode cX7_readWord 120 = .ok (.iload_n 1, 1) := by decide +kernel
theorem dX7_readWord_121 : decode cX7_readWord 121 = .ok (.ldc 77, 2) := by decide +kernel
theorem dX7_readWord_123 : decode cX7_readWord 123 = .ok (.invokevirtual 63, 3) := by decide +kernel
theorem dX7_readWord_126 : decode cX7_readWord 126 = .ok (.ifCond .eq 8, 3) := by decide +kernel
theorem dX7_readWord_129 : decode cX7_readWord 129 = .ok (.bipush 6, 2) := by decide +kernel
theorem dX7_readWord_131 : decode cX7_readWord 131 = .ok (.goto 4, 3) := by decide +kernel
theorem dX7_readWord_134 : decode cX7_readWord 134 = .ok (.iconst (-1), 1) := by decide +kernel
theorem dX7_readWord_135 : decode cX7_readWord 135 = .ok (.ireturn, 1) := by decide +kernel
theorem dX7_isSpelt_0 : decode cX7_isSpelt 0 = .ok (.aload_n 0, 1) := by decide +kernel
theorem dX7_isSpelt_1 : decode cX7_isSpelt 1 = .ok (.getfield 19, 3) := by decide +kernel
theorem dX7_isSpelt_4 : decode cX7_isSpelt 4 = .ok (.iload_n 1, 1) := by decide +kernel
theorem dX7_isSpelt_5 : decode cX7_isSpelt 5 = .ok (.isub, 1) := by decide +kernel
theorem dX7_isSpelt_6 : decode cX7_isSpelt 6 = .ok (.aload_n 2, 1) := by decide +kernel
theorem dX7_isSpelt_7 : decode cX7_isSpelt 7 = .ok (.invokevirtual 79, 3) := by decide +kernel
theorem dX7_isSpelt_10 : decode cX7_isSpelt 10 = .ok (.if_icmp .eq 5, 3) := by decide +kernel
theorem dX7_isSpelt_13 : decode cX7_isSpelt 13 = .ok (.iconst 0, 1) := by decide +kernel
theorem dX7_isSpelt_14 : decode cX7_isSpelt 14 = .ok (.ireturn, 1) := by decide +kernel
theorem dX7_isSpelt_15 : decode cX7_isSpelt 15 = .ok (.iconst 0, 1) := by decide +kernel
theorem dX7_isSpelt_16 : decode cX7_isSpelt 16 = .ok (.istore_n 3, 1) := by decide +kernel
theorem dX7_isSpelt_17 : decode cX7_isSpelt 17 = .ok (.iload_n 3, 1) := by decide +kernel
theorem dX7_isSpelt_18 : decode cX7_isSpelt 18 = .ok (.aload_n 2, 1) := by decide +kernel
theorem dX7_isSpelt_19 : decode cX7_isSpelt 19 = .ok (.invokevirtual 79, 3) := by decide +kernel
theorem dX7_isSpelt_22 : decode cX7_isSpelt 22 = .ok (.if_icmp .ge 29, 3) := by decide +kernel
theorem dX7_isSpelt_25 : decode cX7_isSpelt 25 = .ok (.aload_n 0, 1) := by decide +kernel
theorem dX7_isSpelt_26 : decode cX7_isSpelt 26 = .ok (.getfield 15, 3) := by decide +kernel
theorem dX7_isSpelt_29 : decode cX7_isSpelt 29 = .ok (.iload_n 1, 1) := by decide +kernel
theorem dX7_isSpelt_30 : decode cX7_isSpelt 30 = .ok (.iload_n 3, 1) := by decide +kernel
theorem dX7_isSpelt_31 : decode cX7_isSpelt 31 = .ok (.iadd, 1) := by decide +kernel
theorem dX7_isSpelt_32 : decode cX7_isSpelt 32 = .ok (.invokevirtual 23, 3) := by decide +kernel
theorem dX7_isSpelt_35 : decode cX7_isSpelt 35 = .ok (.aload_n 2, 1) := by decide +kernel
theorem dX7_isSpelt_36 : decode cX7_isSpelt 36 = .ok (.iload_n 3, 1) := by decide +kernel
theorem dX7_isSpelt_37 : decode cX7_isSpelt 37 = .ok (.invokevirtual 83, 3) := by decide +kernel
theorem dX7_isSpelt_40 : decode cX7_isSpelt 40 = .ok (.if_icmp .eq 5, 3) := by decide +kernel
theorem dX7_isSpelt_43 : decode cX7_isSpelt 43 = .ok (.iconst 0, 1) := by decide +kernel
theorem dX7_isSpelt_44 : decode cX7_isSpelt 44 = .ok (.ireturn, 1) := by decide +kernel
theorem dX7_isSpelt_45 : decode cX7_isSpelt 45 = .ok (.iinc 3 1, 3) := by decide +kernel
theorem dX7_isSpelt_48 : decode cX7_isSpelt 48 = .ok (.goto (-31), 3) := by decide +kernel
theorem dX7_isSpelt_51 : decode cX7_isSpelt 51 = .ok (.iconst 1, 1) := by decide +kernel
theorem dX7_isSpelt_52 : decode cX7_isSpelt 52 = .ok (.ireturn, 1) := by decide +kernel
theorem dX7_readTold_0 : decode cX7_readTold 0 = .ok (.iload_n 1, 1) := by decide +kernel
theorem dX7_readTold_1 : decode cX7_readTold 1 = .ok (.tableswitch 111 0 6 #[43, 51, 51, 59, 111, 111, 85], 43) := by decide +kernel
theorem dX7_readTold_44 : decode cX7_readTold 44 = .ok (.aload_n 0, 1) := by decide +kernel
theorem dX7_readTold_45 : decode cX7_readTold 45 = .ok (.iconst 2, 1) := by decide +kernel
theorem dX7_readTold_46 : decode cX7_readTold 46 = .ok (.bipush 16, 2) := by decide +kernel
theorem dX7_readTold_48 : decode cX7_readTold 48 = .ok (.invokevirtual 87, 3) := by decide +kernel
theorem dX7_readTold_51 : decode cX7_readTold 51 = .ok (.ireturn, 1) := by decide +kernel
theorem dX7_readTold_52 : decode cX7_readTold 52 = .ok (.aload_n 0, 1) := by decide +kernel
theorem dX7_readTold_53 : decode cX7_readTold 53 = .ok (.iconst 0, 1) := by decide +kernel
theorem dX7_readTold_54 : decode cX7_readTold 54 = .ok (.bipush 15, 2) := by decide +kernel
theorem dX7_readTold_56 : decode cX7_readTold 56 = .ok (.invokevirtual 87, 3) := by decide +kernel
theorem dX7_readTold_59 : decode cX7_readTold 59 = .ok (.ireturn, 1) := by decide +kernel
theorem dX7_readTold_60 : decode cX7_readTold 60 = .ok (.aload_n 0, 1) := by decide +kernel
theorem dX7_readTold_61 : decode cX7_readTold 61 = .ok (.iconst 0, 1) := by decide +kernel
theorem dX7_readTold_62 : decode cX7_readTold 62 = .ok (.bipush 15, 2) := by decide +kernel
theorem dX7_readTold_64 : decode cX7_readTold 64 = .ok (.invokevirtual 87, 3) := by decide +kernel
theorem dX7_readTold_67 : decode cX7_readTold 67 = .ok (.ifCond .eq 17, 3) := by decide +kernel
theorem dX7_readTold_70 : decode cX7_readTold 70 = .ok (.aload_n 0, 1) := by decide +kernel
theorem dX7_readTold_71 : decode cX7_readTold 71 = .ok (.iconst 0, 1) := by decide +kernel
theorem dX7_readTold_72 : decode cX7_readTold 72 = .ok (.bipush 15, 2) := by decide +kernel
theorem dX7_readTold_74 : decode cX7_readTold 74 = .ok (.invokevirtual 87, 3) := by decide +kernel
theorem dX7_readTold_77 : decode cX7_readTold 77 = .ok (.ifCond .eq 7, 3) := by decide +kernel
theorem dX7_readTold_80 : decode cX7_readTold 80 = .ok (.iconst 1, 1) := by decide +kernel
theorem dX7_readTold_81 : decode cX7_readTold 81 = .ok (.goto 4, 3) := by decide +kernel
theorem dX7_readTold_84 : decode cX7_readTold 84 = .ok (.iconst 0, 1) := by decide +kernel
theorem dX7_readTold_85 : decode cX7_readTold 85 = .ok (.ireturn, 1) := by decide +kernel
theorem dX7_readTold_86 : decode cX7_readTold 86 = .ok (.aload_n 0, 1) := by decide +kernel
theorem dX7_readTold_87 : decode cX7_readTold 87 = .ok (.iconst 0, 1) := by decide +kernel
theorem dX7_readTold_88 : decode cX7_readTold 88 = .ok (.bipush 15, 2) := by decide +kernel
theorem dX7_readTold_90 : decode cX7_readTold 90 = .ok (.invokevirtual 87, 3) := by decide +kernel
theorem dX7_readTold_93 : decode cX7_readTold 93 = .ok (.ifCond .eq 17, 3) := by decide +kernel
theorem dX7_readTold_96 : decode cX7_readTold 96 = .ok (.aload_n 0, 1) := by decide +kernel
theorem dX7_readTold_97 : decode cX7_readTold 97 = .ok (.iconst 0, 1) := by decide +kernel
theorem dX7_readTold_98 : decode cX7_readTold 98 = .ok (.bipush 99, 2) := by decide +kernel
theorem dX7_readTold_100 : decode cX7_readTold 100 = .ok (.invokevirtual 87, 3) := by decide +kernel
theorem dX7_readTold_103 : decode cX7_readTold 103 = .ok (.ifCond .eq 7, 3) := by decide +kernel
theorem dX7_readTold_106 : decode cX7_readTold 106 = .ok (.iconst 1, 1) := by decide +kernel
theorem dX7_readTold_107 : decode cX7_readTold 107 = .ok (.goto 4, 3) := by decide +kernel
theorem dX7_readTold_110 : decode cX7_readTold 110 = .ok (.iconst 0, 1) := by decide +kernel
theorem dX7_readTold_111 : decode cX7_readTold 111 = .ok (.ireturn, 1) := by decide +kernel
theorem dX7_readTold_112 : decode cX7_readTold 112 = .ok (.aload_n 0, 1) := by decide +kernel
theorem dX7_readTold_113 : decode cX7_readTold 113 = .ok (.iconst 0, 1) := by decide +kernel
theorem dX7_readTold_114 : decode cX7_readTold 114 = .ok (.bipush 59, 2) := by decide +kernel
theorem dX7_readTold_116 : decode cX7_readTold 116 = .ok (.invokevirtual 87, 3) := by decide +kernel
theorem dX7_readTold_119 : decode cX7_readTold 119 = .ok (.ireturn, 1) := by decide +kernel
theorem dX7_readNumber_0 : decode cX7_readNumber 0 = .ok (.aload_n 0, 1) := by decide +kernel
theorem dX7_readNumber_1 : decode cX7_readNumber 1 = .ok (.invokevirtual 29, 3) := by decide +kernel
theorem dX7_readNumber_4 : decode cX7_readNumber 4 = .ok (.istore_n 3, 1) := by decide +kernel
theorem dX7_readNumber_5 : decode cX7_readNumber 5 = .ok (.iconst 0, 1) := by decide +kernel
theorem dX7_readNumber_6 : decode cX7_readNumber 6 = .ok (.istore 4, 2) := by decide +kernel
theorem dX7_readNumber_8 : decode cX7_readNumber 8 = .ok (.iconst 0, 1) := by decide +kernel
theorem dX7_readNumber_9 : decode cX7_readNumber 9 = .ok (.istore 5, 2) := by decide +kernel
theorem dX7_readNumber_11 : decode cX7_readNumber 11 = .ok (.iconst 0, 1) := by decide +kernel
theorem dX7_readNumber_12 : decode cX7_readNumber 12 = .ok (.istore 6, 2) := by decide +kernel
theorem dX7_readNumber_14 : decode cX7_readNumber 14 = .ok (.iload 6, 2) := by decide +kernel
theorem dX7_readNumber_16 : decode cX7_readNumber 16 = .ok (.sipush 400, 3) := by decide +kernel
theorem dX7_readNumber_19 : decode cX7_readNumber 19 = .ok (.if_icmp .ge 67, 3) := by decide +kernel
theorem dX7_readNumber_22 : decode cX7_readNumber 22 = .ok (.aload_n 0, 1) := by decide +kernel
theorem dX7_readNumber_23 : decode cX7_readNumber 23 = .ok (.getfield 15, 3) := by decide +kernel
theorem dX7_readNumber_26 : decode cX7_readNumber 26 = .ok (.aload_n 0, 1) := by decide +kernel
theorem dX7_readNumber_27 : decode cX7_readNumber 27 = .ok (.getfield 19, 3) := by decide +kernel
theorem dX7_readNumber_30 : decode cX7_readNumber 30 = .ok (.invokevirtual 23, 3) := by decide +kernel
theorem dX7_readNumber_33 : decode cX7_readNumber 33 = .ok (.invokestatic 91, 3) := by decide +kernel
theorem dX7_readNumber_36 : decode cX7_readNumber 36 = .ok (.ifCond .eq 50, 3) := by decide +kernel
theorem dX7_readNumber_39 : decode cX7_readNumber 39 = .ok (.iload 5, 2) := by decide +kernel
theorem dX7_readNumber_41 : decode cX7_readNumber 41 = .ok (.iconst 3, 1) := by decide +kernel
theorem dX7_readNumber_42 : decode cX7_readNumber 42 = .ok (.if_icmp .ge 28, 3) := by decide +kernel
theorem dX7_readNumber_45 : decode cX7_readNumber 45 = .ok (.iload 4, 2) := by decide +kernel
theorem dX7_readNumber_47 : decode cX7_readNumber 47 = .ok (.bipush 10, 2) := by decide +kernel
theorem dX7_readNumber_49 : decode cX7_readNumber 49 = .ok (.imul, 1) := by decide +kernel
theorem dX7_readNumber_50 : decode cX7_readNumber 50 = .ok (.aload_n 0, 1) := by decide +kernel
theorem dX7_readNumber_51 : decode cX7_readNumber 51 = .ok (.getfield 15, 3) := by decide +kernel
theorem dX7_readNumber_54 : decode cX7_readNumber 54 = .ok (.aload_n 0, 1) := by decide +kernel
theorem dX7_readNumber_55 : decode cX7_readNumber 55 = .ok (.getfield 19, 3) := by decide +kernel
theorem dX7_readNumber_58 : decode cX7_readNumber 58 = .ok (.invokevirtual 23, 3) := by decide +kernel
theorem dX7_readNumber_61 : decode cX7_readNumber 61 = .ok (.iadd, 1) := by decide +kernel
theorem dX7_readNumber_62 : decode cX7_readNumber 62 = .ok (.bipush 48, 2) := by decide +kernel
theorem dX7_readNumber_64 : decode cX7_readNumber 64 = .ok (.isub, 1) := by decide +kernel
theorem dX7_readNumber_65 : decode cX7_readNumber 65 = .ok (.istore 4, 2) := by decide +kernel
theorem dX7_readNumber_67 : decode cX7_readNumber 67 = .ok (.iinc 5 1, 3) := by decide +kernel
theorem dX7_readNumber_70 : decode cX7_readNumber 70 = .ok (.aload_n 0, 1) := by decide +kernel
theorem dX7_readNumber_71 : decode cX7_readNumber 71 = .ok (.dup, 1) := by decide +kernel
theorem dX7_readNumber_72 : decode cX7_readNumber 72 = .ok (.getfield 19, 3) := by decide +kernel
theorem dX7_readNumber_75 : decode cX7_readNumber 75 = .ok (.iconst 1, 1) := by decide +kernel
theorem dX7_readNumber_76 : decode cX7_readNumber 76 = .ok (.iadd, 1) := by decide +kernel
theorem dX7_readNumber_77 : decode cX7_readNumber 77 = .ok (.putfield 19, 3) := by decide +kernel
theorem dX7_readNumber_80 : decode cX7_readNumber 80 = .ok (.iinc 6 1, 3) := by decide +kernel
theorem dX7_readNumber_83 : decode cX7_readNumber 83 = .ok (.goto (-69), 3) := by decide +kernel
theorem dX7_readNumber_86 : decode cX7_readNumber 86 = .ok (.iload 5, 2) := by decide +kernel
theorem dX7_readNumber_88 : decode cX7_readNumber 88 = .ok (.iconst 1, 1) := by decide +kernel
theorem dX7_readNumber_89 : decode cX7_readNumber 89 = .ok (.if_icmp .lt 21, 3) := by decide +kernel
theorem dX7_readNumber_92 : decode cX7_readNumber 92 = .ok (.iload 5, 2) := by decide +kernel
theorem dX7_readNumber_94 : decode cX7_readNumber 94 = .ok (.iconst 2, 1) := by decide +kernel
theorem dX7_readNumber_95 : decode cX7_readNumber 95 = .ok (.if_icmp .gt 15, 3) := by decide +kernel
theorem dX7_readNumber_98 : decode cX7_readNumber 98 = .ok (.iload 4, 2) := by decide +kernel
theorem dX7_readNumber_100 : decode cX7_readNumber 100 = .ok (.iload_n 1, 1) := by decide +kernel
theorem dX7_readNumber_101 : decode cX7_readNumber 101 = .ok (.if_icmp .lt 9, 3) := by decide +kernel
theorem dX7_readNumber_104 : decode cX7_readNumber 104 = .ok (.iload 4, 2) := by decide +kernel
theorem dX7_readNumber_106 : decode cX7_readNumber 106 = .ok (.iload_n 2, 1) := by decide +kernel
theorem dX7_readNumber_107 : decode cX7_readNumber 107 = .ok (.if_icmp .le 10, 3) := by decide +kernel
theorem dX7_readNumber_110 : decode cX7_readNumber 110 = .ok (.aload_n 0, 1) := by decide +kernel
theorem dX7_readNumber_111 : decode cX7_readNumber 111 = .ok (.iload_n 3, 1) := by decide +kernel
theorem dX7_readNumber_112 : decode cX7_readNumber 112 = .ok (.putfield 45, 3) := by decide +kernel
theorem dX7_readNumber_115 : decode cX7_readNumber 115 = .ok (.iconst 0, 1) := by decide +kernel
theorem dX7_readNumber_116 : decode cX7_readNumber 116 = .ok (.ireturn, 1) := by decide +kernel
theorem dX7_readNumber_117 : decode cX7_readNumber 117 = .ok (.aload_n 0, 1) := by decide +kernel
theorem dX7_readNumber_118 : decode cX7_readNumber 118 = .ok (.getfield 9, 3) := by decide +kernel
theorem dX7_readNumber_121 : decode cX7_readNumber 121 = .ok (.aload_n 0, 1) := by decide +kernel
theorem dX7_readNumber_122 : decode cX7_readNumber 122 = .ok (.getfield 39, 3) := by decide +kernel
theorem dX7_readNumber_125 : decode cX7_readNumber 125 = .ok (.iload 4, 2) := by decide +kernel
theorem dX7_readNumber_127 : decode cX7_readNumber 127 = .ok (.invokestatic 94, 3) := by decide +kernel
theorem dX7_readNumber_130 : decode cX7_readNumber 130 = .ok (.aload_n 0, 1) := by decide +kernel
theorem dX7_readNumber_131 : decode cX7_readNumber 131 = .ok (.dup, 1) := by decide +kernel
theorem dX7_readNumber_132 : decode cX7_readNumber 132 = .ok (.getfield 39, 3) := by decide +kernel
theorem dX7_readNumber_135 : decode cX7_readNumber 135 = .ok (.iconst 1, 1) := by decide +kernel
theorem dX7_readNumber_136 : decode cX7_readNumber 136 = .ok (.iadd, 1) := by decide +kernel
theorem dX7_readNumber_137 : decode cX7_readNumber 137 = .ok (.putfield 39, 3) := by decide +kernel
theorem dX7_readNumber_140 : decode cX7_readNumber 140 = .ok (.iconst 1, 1) := by decide +kernel
theorem dX7_readNumber_141 : decode cX7_readNumber 141 = .ok (.ireturn, 1) := by decide +kernel
theorem dX7_width_0 : decode cX7_width 0 = .ok (.iload_n 1, 1) := by decide +kernel
theorem dX7_width_1 : decode cX7_width 1 = .ok (.iconst 3, 1) := by decide +kernel
theorem dX7_width_2 : decode cX7_width 2 = .ok (.if_icmp .eq 9, 3) := by decide +kernel
theorem dX7_width_5 : decode cX7_width 5 = .ok (.iload_n 1, 1) := by decide +kernel
theorem dX7_width_6 : decode cX7_width 6 = .ok (.bipush 6, 2) := by decide +kernel
theorem dX7_width_8 : decode cX7_width 8 = .ok (.if_icmp .ne 7, 3) := by decide +kernel
theorem dX7_width_11 : decode cX7_width 11 = .ok (.iconst 2, 1) := by decide +kernel
theorem dX7_width_12 : decode cX7_width 12 = .ok (.goto 4, 3) := by decide +kernel
theorem dX7_width_15 : decode cX7_width 15 = .ok (.iconst 1, 1) := by decide +kernel
theorem dX7_width_16 : decode cX7_width 16 = .ok (.ireturn, 1) := by decide +kernel
theorem dX7_isRepeated_0 : decode cX7_isRepeated 0 = .ok (.iload_n 0, 1) := by decide +kernel
theorem dX7_isRepeated_1 : decode cX7_isRepeated 1 = .ok (.iconst 3, 1) := by decide +kernel
theorem dX7_isRepeated_2 : decode cX7_isRepeated 2 = .ok (.if_icmp .eq 13, 3) := by decide +kernel
theorem dX7_isRepeated_5 : decode cX7_isRepeated 5 = .ok (.iload_n 0, 1) := by decide +kernel
theorem dX7_isRepeated_6 : decode cX7_isRepeated 6 = .ok (.iconst 4, 1) := by decide +kernel
theorem dX7_isRepeated_7 : decode cX7_isRepeated 7 = .ok (.if_icmp .eq 8, 3) := by decide +kernel
theorem dX7_isRepeated_10 : decode cX7_isRepeated 10 = .ok (.iload_n 0, 1) := by decide +kernel
theorem dX7_isRepeated_11 : decode cX7_isRepeated 11 = .ok (.iconst 5, 1) := by decide +kernel
theorem dX7_isRepeated_12 : decode cX7_isRepeated 12 = .ok (.if_icmp .ne 7, 3) := by decide +kernel
theorem dX7_isRepeated_15 : decode cX7_isRepeated 15 = .ok (.iconst 1, 1) := by decide +kernel
theorem dX7_isRepeated_16 : decode cX7_isRepeated 16 = .ok (.goto 4, 3) := by decide +kernel
theorem dX7_isRepeated_19 : decode cX7_isRepeated 19 = .ok (.iconst 0, 1) := by decide +kernel
theorem dX7_isRepeated_20 : decode cX7_isRepeated 20 = .ok (.ireturn, 1) := by decide +kernel
theorem dX7_isLetter_0 : decode cX7_isLetter 0 = .ok (.iload_n 0, 1) := by decide +kernel
theorem dX7_isLetter_1 : decode cX7_isLetter 1 = .ok (.bipush 97, 2) := by decide +kernel
theorem dX7_isLetter_3 : decode cX7_isLetter 3 = .ok (.if_icmp .lt 13, 3) := by decide +kernel
theorem dX7_isLetter_6 : decode cX7_isLetter 6 = .ok (.iload_n 0, 1) := by decide +kernel
theorem dX7_isLetter_7 : decode cX7_isLetter 7 = .ok (.bipush 122, 2) := by decide +kernel
theorem dX7_isLetter_9 : decode cX7_isLetter 9 = .ok (.if_icmp .gt 7, 3) := by decide +kernel
theorem dX7_isLetter_12 : decode cX7_isLetter 12 = .ok (.iconst 1, 1) := by decide +kernel
theorem dX7_isLetter_13 : decode cX7_isLetter 13 = .ok (.goto 4, 3) := by decide +kernel
theorem dX7_isLetter_16 : decode cX7_isLetter 16 = .ok (.iconst 0, 1) := by decide +kernel
theorem dX7_isLetter_17 : decode cX7_isLetter 17 = .ok (.ireturn, 1) := by decide +kernel
theorem dX7_isDigit_0 : decode cX7_isDigit 0 = .ok (.iload_n 0, 1) := by decide +kernel
theorem dX7_isDigit_1 : decode cX7_isDigit 1 = .ok (.bipush 48, 2) := by decide +kernel
theorem dX7_isDigit_3 : decode cX7_isDigit 3 = .ok (.if_icmp .lt 13, 3) := by decide +kernel
theorem dX7_isDigit_6 : decode cX7_isDigit 6 = .ok (.iload_n 0, 1) := by decide +kernel
theorem dX7_isDigit_7 : decode cX7_isDigit 7 = .ok (.bipush 57, 2) := by decide +kernel
theorem dX7_isDigit_9 : decode cX7_isDigit 9 = .ok (.if_icmp .gt 7, 3) := by decide +kernel
theorem dX7_isDigit_12 : decode cX7_isDigit 12 = .ok (.iconst 1, 1) := by decide +kernel
theorem dX7_isDigit_13 : decode cX7_isDigit 13 = .ok (.goto 4, 3) := by decide +kernel
theorem dX7_isDigit_16 : decode cX7_isDigit 16 = .ok (.iconst 0, 1) := by decide +kernel
theorem dX7_isDigit_17 : decode cX7_isDigit 17 = .ok (.ireturn, 1) := by decide +kernel
theorem dX8_init_0 : decode cX8_init 0 = .ok (.aload_n 0, 1) := by decide +kernel
theorem dX8_init_1 : decode cX8_init 1 = .ok (.invokespecial 3, 3) := by decide +kernel
theorem dX8_init_4 : decode cX8_init 4 = .ok (.aload_n 0, 1) := by decide +kernel
theorem dX8_init_5 : decode cX8_init 5 = .ok (.new 9, 3) := by decide +kernel
theorem dX8_init_8 : decode cX8_init 8 = .ok (.dup, 1) := by decide +kernel
theorem dX8_init_9 : decode cX8_init 9 = .ok (.invokespecial 11, 3) := by decide +kernel
theorem dX8_init_12 : decode cX8_init 12 = .ok (.putfield 12, 3) := by decide +kernel
theorem dX8_init_15 : decode cX8_init 15 = .ok (.aload_n 0, 1) := by decide +kernel
theorem dX8_init_16 : decode cX8_init 16 = .ok (.bipush 16, 2) := by decide +kernel
theorem dX8_init_18 : decode cX8_init 18 = .ok (.newarray .int, 2) := by decide +kernel
theorem dX8_init_20 : decode cX8_init 20 = .ok (.putfield 18, 3) := by decide +kernel
theorem dX8_init_23 : decode cX8_init 23 = .ok (.aload_n 0, 1) := by decide +kernel
theorem dX8_init_24 : decode cX8_init 24 = .ok (.bipush 16, 2) := by decide +kernel
theorem dX8_init_26 : decode cX8_init 26 = .ok (.newarray .int, 2) := by decide +kernel
theorem dX8_init_28 : decode cX8_init 28 = .ok (.putfield 22, 3) := by decide +kernel
theorem dX8_init_31 : decode cX8_init 31 = .ok (.aload_n 0, 1) := by decide +kernel
theorem dX8_init_32 : decode cX8_init 32 = .ok (.bipush 16, 2) := by decide +kernel
theorem dX8_init_34 : decode cX8_init 34 = .ok (.newarray .int, 2) := by decide +kernel
theorem dX8_init_36 : decode cX8_init 36 = .ok (.putfield 25, 3) := by decide +kernel
theorem dX8_init_39 : decode cX8_init 39 = .ok (.aload_n 0, 1) := by decide +kernel
theorem dX8_init_40 : decode cX8_init 40 = .ok (.sipush 256, 3) := by decide +kernel
theorem dX8_init_43 : decode cX8_init 43 = .ok (.newarray .int, 2) := by decide +kernel
theorem dX8_init_45 : decode cX8_init 45 = .ok (.putfield 28, 3) := by decide +kernel
theorem dX8_init_48 : decode cX8_init 48 = .ok (.aload_n 0, 1) := by decide +kernel
theorem dX8_init_49 : decode cX8_init 49 = .ok (.new 31, 3) := by decide +kernel
theorem dX8_init_52 : decode cX8_init 52 = .ok (.dup, 1) := by decide +kernel
theorem dX8_init_53 : decode cX8_init 53 = .ok (.invokespecial 33, 3) := by decide +kernel
theorem dX8_init_56 : decode cX8_init 56 = .ok (.putfield 34, 3) := by decide +kernel
theorem dX8_init_59 : decode cX8_init 59 = .ok (.aload_n 0, 1) := by decide +kernel
theorem dX8_init_60 : decode cX8_init 60 = .ok (.new 38, 3) := by decide +kernel
theorem dX8_init_63 : decode cX8_init 63 = .ok (.dup, 1) := by decide +kernel
theorem dX8_init_64 : decode cX8_init 64 = .ok (.invokespecial 40, 3) := by decide +kernel
theorem dX8_init_67 : decode cX8_init 67 = .ok (.putfield 41, 3) := by decide +kernel
theorem dX8_init_70 : decode cX8_init 70 = .ok (.aload_n 0, 1) := by decide +kernel
theorem dX8_init_71 : decode cX8_init 71 = .ok (.new 45, 3) := by decide +kernel
theorem dX8_init_74 : decode cX8_init 74 = .ok (.dup, 1) := by decide +kernel
theorem dX8_init_75 : decode cX8_init 75 = .ok (.invokespecial 47, 3) := by decide +kernel
theorem dX8_init_78 : decode cX8_init 78 = .ok (.putfield 48, 3) := by decide +kernel
theorem dX8_init_81 : decode cX8_init 81 = .ok (.aload_n 0, 1) := by decide +kernel
theorem dX8_init_82 : decode cX8_init 82 = .ok (.new 9, 3) := by decide +kernel
theorem dX8_init_85 : decode cX8_init 85 = .ok (.dup, 1) := by decide +kernel
theorem dX8_init_86 : decode cX8_init 86 = .ok (.invokespecial 11, 3) := by decide +kernel
theorem dX8_init_89 : decode cX8_init 89 = .ok (.putfield 52, 3) := by decide +kernel
theorem dX8_init_92 : decode cX8_init 92 = .ok (.aload_n 0, 1) := by decide +kernel
theorem dX8_init_93 : decode cX8_init 93 = .ok (.new 9, 3) := by decide +kernel
theorem dX8_init_96 : decode cX8_init 96 = .ok (.dup, 1) := by decide +kernel
theorem dX8_init_97 : decode cX8_init 97 = .ok (.invokespecial 11, 3) := by decide +kernel
theorem dX8_init_100 : decode cX8_init 100 = .ok (.putfield 55, 3) := by decide +kernel
theorem dX8_init_103 : decode cX8_init 103 = .ok (.aload_n 0, 1) := by decide +kernel
theorem dX8_init_104 : decode cX8_init 104 = .ok (.aload_n 1, 1) := by decide +kernel
theorem dX8_init_105 : decode cX8_init 105 = .ok (.putfield 58, 3) := by decide +kernel
theorem dX8_init_108 : decode cX8_init 108 = .ok (.return_, 1) := by decide +kernel
theorem dX8_renew_0 : decode cX8_renew 0 = .ok (.aload_n 0, 1) := by decide +kernel
theorem dX8_renew_1 : decode cX8_renew 1 = .ok (.getfield 52, 3) := by decide +kernel
theorem dX8_renew_4 : decode cX8_renew 4 = .ok (.astore_n 2, 1) := by decide +kernel
theorem dX8_renew_5 : decode cX8_renew 5 = .ok (.aload_n 0, 1) := by decide +kernel
theorem dX8_renew_6 : decode cX8_renew 6 = .ok (.aload_n 0, 1) := by decide +kernel
theorem dX8_renew_7 : decode cX8_renew 7 = .ok (.getfield 55, 3) := by decide +kernel
theorem dX8_renew_10 : decode cX8_renew 10 = .ok (.putfield 52, 3) := by decide +kernel
theorem dX8_renew_13 : decode cX8_renew 13 = .ok (.aload_n 0, 1) := by decide +kernel
theorem dX8_renew_14 : decode cX8_renew 14 = .ok (.aload_n 2, 1) := by decide +kernel
theorem dX8_renew_15 : decode cX8_renew 15 = .ok (.putfield 55, 3) := by decide +kernel
theorem dX8_renew_18 : decode cX8_renew 18 = .ok (.aload_n 0, 1) := by decide +kernel
theorem dX8_renew_19 : decode cX8_renew 19 = .ok (.getfield 58, 3) := by decide +kernel
theorem dX8_renew_22 : decode cX8_renew 22 = .ok (.aload_n 0, 1) := by decide +kernel
theorem dX8_renew_23 : decode cX8_renew 23 = .ok (.getfield 52, 3) := by decide +kernel
theorem dX8_renew_26 : decode cX8_renew 26 = .ok (.getfield 62, 3) := by decide +kernel
theorem dX8_renew_29 : decode cX8_renew 29 = .ok (.iconst (-1), 1) := by decide +kernel
theorem dX8_renew_30 : decode cX8_renew 30 = .ok (.invokevirtual 65, 3) := by decide +kernel
theorem dX8_renew_33 : decode cX8_renew 33 = .ok (.aload_n 0, 1) := by decide +kernel
theorem dX8_renew_34 : decode cX8_renew 34 = .ok (.getfield 52, 3) := by decide +kernel
theorem dX8_renew_37 : decode cX8_renew 37 = .ok (.aload_n 0, 1) := by decide +kernel
theorem dX8_renew_38 : decode cX8_renew 38 = .ok (.getfield 58, 3) := by decide +kernel
theorem dX8_renew_41 : decode cX8_renew 41 = .ok (.getfield 71, 3) := by decide +kernel
theorem dX8_renew_44 : decode cX8_renew 44 = .ok (.invokestatic 75, 3) := by decide +kernel
theorem dX8_renew_47 : decode cX8_renew 47 = .ok (.invokevirtual 79, 3) := by decide +kernel
theorem dX8_renew_50 : decode cX8_renew 50 = .ok (.aload_n 0, 1) := by decide +kernel
theorem dX8_renew_51 : decode cX8_renew 51 = .ok (.invokevirtual 83, 3) := by decide +kernel
theorem dX8_renew_54 : decode cX8_renew 54 = .ok (.aload_n 1, 1) := by decide +kernel
theorem dX8_renew_55 : decode cX8_renew 55 = .ok (.aload_n 2, 1) := by decide +kernel
theorem dX8_renew_56 : decode cX8_renew 56 = .ok (.aload_n 0, 1) := by decide +kernel
theorem dX8_renew_57 : decode cX8_renew 57 = .ok (.getfield 52, 3) := by decide +kernel
theorem dX8_renew_60 : decode cX8_renew 60 = .ok (.invokevirtual 86, 3) := by decide +kernel
theorem dX8_renew_63 : decode cX8_renew 63 = .ok (.return_, 1) := by decide +kernel
theorem dX8_fillRear_0 : decode cX8_fillRear 0 = .ok (.iconst 0, 1) := by decide +kernel
theorem dX8_fillRear_1 : decode cX8_fillRear 1 = .ok (.istore_n 1, 1) := by decide +kernel
theorem dX8_fillRear_2 : decode cX8_fillRear 2 = .ok (.iload_n 1, 1) := by decide +kernel
theorem dX8_fillRear_3 : decode cX8_fillRear 3 = .ok (.bipush 16, 2) := by decide +kernel
theorem dX8_fillRear_5 : decode cX8_fillRear 5 = .ok (.if_icmp .ge 67, 3) := by decide +kernel
theorem dX8_fillRear_8 : decode cX8_fillRear 8 = .ok (.iconst 0, 1) := by decide +kernel
theorem dX8_fillRear_9 : decode cX8_fillRear 9 = .ok (.istore_n 2, 1) := by decide +kernel
theorem dX8_fillRear_10 : decode cX8_fillRear 10 = .ok (.iconst 0, 1) := by decide +kernel
theorem dX8_fillRear_11 : decode cX8_fillRear 11 = .ok (.istore_n 3, 1) := by decide +kernel
theorem dX8_fillRear_12 : decode cX8_fillRear 12 = .ok (.iload_n 3, 1) := by decide +kernel
theorem dX8_fillRear_13 : decode cX8_fillRear 13 = .ok (.bipush 16, 2) := by decide +kernel
theorem dX8_fillRear_15 : decode cX8_fillRear 15 = .ok (.if_icmp .ge 42, 3) := by decide +kernel
theorem dX8_fillRear_18 : decode cX8_fillRear 18 = .ok (.aload_n 0, 1) := by decide +kernel
theorem dX8_fillRear_19 : decode cX8_fillRear 19 = .ok (.iload_n 3, 1) := by decide +kernel
theorem dX8_fillRear_20 : decode cX8_fillRear 20 = .ok (.invokevirtual 90, 3) := by decide +kernel
theorem dX8_fillRear_23 : decode cX8_fillRear 23 = .ok (.ifCond .eq 28, 3) := by decide +kernel
theorem dX8_fillRear_26 : decode cX8_fillRear 26 = .ok (.aload_n 0, 1) := by decide +kernel
theorem dX8_fillRear_27 : decode cX8_fillRear 27 = .ok (.getfield 52, 3) := by decide +kernel
theorem dX8_fillRear_30 : decode cX8_fillRear 30 = .ok (.getfield 62, 3) := by decide +kernel
theorem dX8_fillRear_33 : decode cX8_fillRear 33 = .ok (.iload_n 3, 1) := by decide +kernel
theorem dX8_fillRear_34 : decode cX8_fillRear 34 = .ok (.invokestatic 94, 3) := by decide +kernel
theorem dX8_fillRear_37 : decode cX8_fillRear 37 = .ok (.iload_n 1, 1) := by decide +kernel
theorem dX8_fillRear_38 : decode cX8_fillRear 38 = .ok (.invokestatic 98, 3) := by decide +kernel
theorem dX8_fillRear_41 : decode cX8_fillRear 41 = .ok (.ifCond .eq 10, 3) := by decide +kernel
theorem dX8_fillRear_44 : decode cX8_fillRear 44 = .ok (.iload_n 2, 1) := by decide +kernel
theorem dX8_fillRear_45 : decode cX8_fillRear 45 = .ok (.iload_n 3, 1) := by decide +kernel
theorem dX8_fillRear_46 : decode cX8_fillRear 46 = .ok (.invokestatic 75, 3) := by decide +kernel
theorem dX8_fillRear_49 : decode cX8_fillRear 49 = .ok (.ior, 1) := by decide +kernel
theorem dX8_fillRear_50 : decode cX8_fillRear 50 = .ok (.istore_n 2, 1) := by decide +kernel
theorem dX8_fillRear_51 : decode cX8_fillRear 51 = .ok (.iinc 3 1, 3) := by decide +kernel
theorem dX8_fillRear_54 : decode cX8_fillRear 54 = .ok (.goto (-42), 3) := by decide +kernel
theorem dX8_fillRear_57 : decode cX8_fillRear 57 = .ok (.aload_n 0, 1) := by decide +kernel
theorem dX8_fillRear_58 : decode cX8_fillRear 58 = .ok (.getfield 18, 3) := by decide +kernel
theorem dX8_fillRear_61 : decode cX8_fillRear 61 = .ok (.iload_n 1, 1) := by decide +kernel
theorem dX8_fillRear_62 : decode cX8_fillRear 62 = .ok (.iload_n 2, 1) := by decide +kernel
theorem dX8_fillRear_63 : decode cX8_fillRear 63 = .ok (.invokestatic 102, 3) := by decide +kernel
theorem dX8_fillRear_66 : decode cX8_fillRear 66 = .ok (.iinc 1 1, 3) := by decide +kernel
theorem dX8_fillRear_69 : decode cX8_fillRear 69 = .ok (.goto (-67), 3) := by decide +kernel
theorem dX8_fillRear_72 : decode cX8_fillRear 72 = .ok (.return_, 1) := by decide +kernel
theorem dX8_isReached_0 : decode cX8_isReached 0 = .ok (.aload_n 0, 1) := by decide +kernel
theorem dX8_isReached_1 : decode cX8_isReached 1 = .ok (.getfield 52, 3) := by decide +kernel
theorem dX8_isReached_4 : decode cX8_isReached 4 = .ok (.getfield 106, 3) := by decide +kernel
theorem dX8_isReached_7 : decode cX8_isReached 7 = .ok (.iload_n 1, 1) := by decide +kernel
theorem dX8_isReached_8 : decode cX8_isReached 8 = .ok (.invokestatic 98, 3) := by decide +kernel
theorem dX8_isReached_11 : decode cX8_isReached 11 = .ok (.ireturn, 1) := by decide +kernel
theorem dX8_keptNearest_0 : decode cX8_keptNearest 0 = .ok (.iconst 0, 1) := by decide +kernel
theorem dX8_keptNearest_1 : decode cX8_keptNearest 1 = .ok (.istore_n 2, 1) := by decide +kernel
theorem dX8_keptNearest_2 : decode cX8_keptNearest 2 = .ok (.iconst 0, 1) := by decide +kernel
theorem dX8_keptNearest_3 : decode cX8_keptNearest 3 = .ok (.istore_n 3, 1) := by decide +kernel
theorem dX8_keptNearest_4 : decode cX8_keptNearest 4 = .ok (.iload_n 3, 1) := by decide +kernel
theorem dX8_keptNearest_5 : decode cX8_keptNearest 5 = .ok (.bipush 16, 2) := by decide +kernel
theorem dX8_keptNearest_7 : decode cX8_keptNearest 7 = .ok (.if_icmp .ge 31, 3) := by decide +kernel
theorem dX8_keptNearest_10 : decode cX8_keptNearest 10 = .ok (.aload_n 0, 1) := by decide +kernel
theorem dX8_keptNearest_11 : decode cX8_keptNearest 11 = .ok (.getfield 52, 3) := by decide +kernel
theorem dX8_keptNearest_14 : decode cX8_keptNearest 14 = .ok (.getfield 109, 3) := by decide +kernel
theorem dX8_keptNearest_17 : decode cX8_keptNearest 17 = .ok (.iload_n 3, 1) := by decide +kernel
theorem dX8_keptNearest_18 : decode cX8_keptNearest 18 = .ok (.invokestatic 94, 3) := by decide +kernel
theorem dX8_keptNearest_21 : decode cX8_keptNearest 21 = .ok (.iload_n 1, 1) := by decide +kernel
theorem dX8_keptNearest_22 : decode cX8_keptNearest 22 = .ok (.if_icmp .ne 10, 3) := by decide +kernel
theorem dX8_keptNearest_25 : decode cX8_keptNearest 25 = .ok (.iload_n 2, 1) := by decide +kernel
theorem dX8_keptNearest_26 : decode cX8_keptNearest 26 = .ok (.iload_n 3, 1) := by decide +kernel
theorem dX8_keptNearest_27 : decode cX8_keptNearest 27 = .ok (.invokestatic 75, 3) := by decide +kernel
theorem dX8_keptNearest_30 : decode cX8_keptNearest 30 = .ok (.ior, 1) := by decide +kernel
theorem dX8_keptNearest_31 : decode cX8_keptNearest 31 = .ok (.istore_n 2, 1) := by decide +kernel
theorem dX8_keptNearest_32 : decode cX8_keptNearest 32 = .ok (.iinc 3 1, 3) := by decide +kernel
theorem dX8_keptNearest_35 : decode cX8_keptNearest 35 = .ok (.goto (-31), 3) := by decide +kernel
theorem dX8_keptNearest_38 : decode cX8_keptNearest 38 = .ok (.iload_n 2, 1) := by decide +kernel
theorem dX8_keptNearest_39 : decode cX8_keptNearest 39 = .ok (.ireturn, 1) := by decide +kernel
theorem dX8_keepNone_0 : decode cX8_keepNone 0 = .ok (.iconst 0, 1) := by decide +kernel
theorem dX8_keepNone_1 : decode cX8_keepNone 1 = .ok (.istore_n 1, 1) := by decide +kernel
theorem dX8_keepNone_2 : decode cX8_keepNone 2 = .ok (.iconst 0, 1) := by decide +kernel
theorem dX8_keepNone_3 : decode cX8_keepNone 3 = .ok (.istore_n 2, 1) := by decide +kernel
theorem dX8_keepNone_4 : decode cX8_keepNone 4 = .ok (.iload_n 2, 1) := by decide +kernel
theorem dX8_keepNone_5 : decode cX8_keepNone 5 = .ok (.bipush 16, 2) := by decide +kernel
theorem dX8_keepNone_7 : decode cX8_keepNone 7 = .ok (.if_icmp .ge 38, 3) := by decide +kernel
theorem dX8_keepNone_10 : decode cX8_keepNone 10 = .ok (.aload_n 0, 1) := by decide +kernel
theorem dX8_keepNone_11 : decode cX8_keepNone 11 = .ok (.iload_n 2, 1) := by decide +kernel
theorem dX8_keepNone_12 : decode cX8_keepNone 12 = .ok (.invokevirtual 90, 3) := by decide +kernel
theorem dX8_keepNone_15 : decode cX8_keepNone 15 = .ok (.ifCond .eq 24, 3) := by decide +kernel
theorem dX8_keepNone_18 : decode cX8_keepNone 18 = .ok (.aload_n 0, 1) := by decide +kernel
theorem dX8_keepNone_19 : decode cX8_keepNone 19 = .ok (.getfield 52, 3) := by decide +kernel
theorem dX8_keepNone_22 : decode cX8_keepNone 22 = .ok (.getfield 112, 3) := by decide +kernel
theorem dX8_keepNone_25 : decode cX8_keepNone 25 = .ok (.iload_n 2, 1) := by decide +kernel
theorem dX8_keepNone_26 : decode cX8_keepNone 26 = .ok (.invokestatic 94, 3) := by decide +kernel
theorem dX8_keepNone_29 : decode cX8_keepNone 29 = .ok (.ifCond .ne 10, 3) := by decide +kernel
theorem dX8_keepNone_32 : decode cX8_keepNone 32 = .ok (.iload_n 1, 1) := by decide +kernel
theorem dX8_keepNone_33 : decode cX8_keepNone 33 = .ok (.iload_n 2, 1) := by decide +kernel
theorem dX8_keepNone_34 : decode cX8_keepNone 34 = .ok (.invokestatic 75, 3) := by decide +kernel
theorem dX8_keepNone_37 : decode cX8_keepNone 37 = .ok (.ior, 1) := by decide +kernel
theorem dX8_keepNone_38 : decode cX8_keepNone 38 = .ok (.istore_n 1, 1) := by decide +kernel
theorem dX8_keepNone_39 : decode cX8_keepNone 39 = .ok (.iinc 2 1, 3) := by decide +kernel
theorem dX8_keepNone_42 : decode cX8_keepNone 42 = .ok (.goto (-38), 3) := by decide +kernel
theorem dX8_keepNone_45 : decode cX8_keepNone 45 = .ok (.iload_n 1, 1) := by decide +kernel
theorem dX8_keepNone_46 : decode cX8_keepNone 46 = .ok (.ireturn, 1) := by decide +kernel
theorem dX8_upTo_0 : decode cX8_upTo 0 = .ok (.aload_n 0, 1) := by decide +kernel
theorem dX8_upTo_1 : decode cX8_upTo 1 = .ok (.iload_n 1, 1) := by decide +kernel
theorem dX8_upTo_2 : decode cX8_upTo 2 = .ok (.invokevirtual 90, 3) := by decide +kernel
theorem dX8_upTo_5 : decode cX8_upTo 5 = .ok (.ifCond .eq 22, 3) := by decide +kernel
theorem dX8_upTo_8 : decode cX8_upTo 8 = .ok (.aload_n 0, 1) := by decide +kernel
theorem dX8_upTo_9 : decode cX8_upTo 9 = .ok (.getfield 52, 3) := by decide +kernel
theorem dX8_upTo_12 : decode cX8_upTo 12 = .ok (.getfield 115, 3) := by decide +kernel
theorem dX8_upTo_15 : decode cX8_upTo 15 = .ok (.iload_n 1, 1) := by decide +kernel
theorem dX8_upTo_16 : decode cX8_upTo 16 = .ok (.invokestatic 94, 3) := by decide +kernel
theorem dX8_upTo_19 : decode cX8_upTo 19 = .ok (.iload_n 1, 1) := by decide +kernel
theorem dX8_upTo_20 : decode cX8_upTo 20 = .ok (.invokestatic 75, 3) := by decide +kernel
theorem dX8_upTo_23 : decode cX8_upTo 23 = .ok (.ior, 1) := by decide +kernel
theorem dX8_upTo_24 : decode cX8_upTo 24 = .ok (.goto 4, 3) := by decide +kernel
theorem dX8_upTo_27 : decode cX8_upTo 27 = .ok (.iconst 0, 1) := by decide +kernel
theorem dX8_upTo_28 : decode cX8_upTo 28 = .ok (.ireturn, 1) := by decide +kernel
theorem dX8_edge_0 : decode cX8_edge 0 = .ok (.aload_n 0, 1) := by decide +kernel
theorem dX8_edge_1 : decode cX8_edge 1 = .ok (.iload_n 1, 1) := by decide +kernel
theorem dX8_edge_2 : decode cX8_edge 2 = .ok (.invokevirtual 90, 3) := by decide +kernel
theorem dX8_edge_5 : decode cX8_edge 5 = .ok (.ifCond .ne 5, 3) := by decide +kernel
theorem dX8_edge_8 : decode cX8_edge 8 = .ok (.iconst 0, 1) := by decide +kernel
theorem dX8_edge_9 : decode cX8_edge 9 = .ok (.ireturn, 1) := by decide +kernel
theorem dX8_edge_10 : decode cX8_edge 10 = .ok (.aload_n 0, 1) := by decide +kernel
theorem dX8_edge_11 : decode cX8_edge 11 = .ok (.getfield 52, 3) := by decide +kernel
theorem dX8_edge_14 : decode cX8_edge 14 = .ok (.getfield 112, 3) := by decide +kernel
theorem dX8_edge_17 : decode cX8_edge 17 = .ok (.iload_n 1, 1) := by decide +kernel
theorem dX8_edge_18 : decode cX8_edge 18 = .ok (.invokestatic 94, 3) := by decide +kernel
theorem dX8_edge_21 : decode cX8_edge 21 = .ok (.istore_n 2, 1) := by decide +kernel
theorem dX8_edge_22 : decode cX8_edge 22 = .ok (.aload_n 0, 1) := by decide +kernel
theorem dX8_edge_23 : decode cX8_edge 23 = .ok (.iload_n 2, 1) := by decide +kernel
theorem dX8_edge_24 : decode cX8_edge 24 = .ok (.iload_n 1, 1) := by decide +kernel
theorem dX8_edge_25 : decode cX8_edge 25 = .ok (.invokestatic 75, 3) := by decide +kernel
theorem dX8_edge_28 : decode cX8_edge 28 = .ok (.ior, 1) := by decide +kernel
theorem dX8_edge_29 : decode cX8_edge 29 = .ok (.invokevirtual 118, 3) := by decide +kernel
theorem dX8_edge_32 : decode cX8_edge 32 = .ok (.iload_n 2, 1) := by decide +kernel
theorem dX8_edge_33 : decode cX8_edge 33 = .ok (.iconst (-1), 1) := by decide +kernel
theorem dX8_edge_34 : decode cX8_edge 34 = .ok (.ixor, 1) := by decide +kernel
theorem dX8_edge_35 : decode cX8_edge 35 = .ok (.iand, 1) := by decide +kernel
theorem dX8_edge_36 : decode cX8_edge 36 = .ok (.ireturn, 1) := by decide +kernel
theorem dX8_step_0 : decode cX8_step 0 = .ok (.iconst 0, 1) := by decide +kernel
theorem dX8_step_1 : decode cX8_step 1 = .ok (.istore_n 2, 1) := by decide +kernel
theorem dX8_step_2 : decode cX8_step 2 = .ok (.iconst 0, 1) := by decide +kernel
theorem dX8_step_3 : decode cX8_step 3 = .ok (.istore_n 3, 1) := by decide +kernel
theorem dX8_step_4 : decode cX8_step 4 = .ok (.iload_n 3, 1) := by decide +kernel
theorem dX8_step_5 : decode cX8_step 5 = .ok (.bipush 16, 2) := by decide +kernel
theorem dX8_step_7 : decode cX8_step 7 = .ok (.if_icmp .ge 31, 3) := by decide +kernel
theorem dX8_step_10 : decode cX8_step 10 = .ok (.iload_n 1, 1) := by decide +kernel
theorem dX8_step_11 : decode cX8_step 11 = .ok (.iload_n 3, 1) := by decide +kernel
theorem dX8_step_12 : decode cX8_step 12 = .ok (.invokestatic 98, 3) := by decide +kernel
theorem dX8_step_15 : decode cX8_step 15 = .ok (.ifCond .eq 17, 3) := by decide +kernel
theorem dX8_step_18 : decode cX8_step 18 = .ok (.iload_n 2, 1) := by decide +kernel
theorem dX8_step_19 : decode cX8_step 19 = .ok (.aload_n 0, 1) := by decide +kernel
theorem dX8_step_20 : decode cX8_step 20 = .ok (.getfield 52, 3) := by decide +kernel
theorem dX8_step_23 : decode cX8_step 23 = .ok (.getfield 62, 3) := by decide +kernel
theorem dX8_step_26 : decode cX8_step 26 = .ok (.iload_n 3, 1) := by decide +kernel
theorem dX8_step_27 : decode cX8_step 27 = .ok (.invokestatic 94, 3) := by decide +kernel
theorem dX8_step_30 : decode cX8_step 30 = .ok (.ior, 1) := by decide +kernel
theorem dX8_step_31 : decode cX8_step 31 = .ok (.istore_n 2, 1) := by decide +kernel
theorem dX8_step_32 : decode cX8_step 32 = .ok (.iinc 3 1, 3) := by decide +kernel
theorem dX8_step_35 : decode cX8_step 35 = .ok (.goto (-31), 3) := by decide +kernel
theorem dX8_step_38 : decode cX8_step 38 = .ok (.iload_n 2, 1) := by decide +kernel
theorem dX8_step_39 : decode cX8_step 39 = .ok (.ireturn, 1) := by decide +kernel
theorem dX8_link_0 : decode cX8_link 0 = .ok (.iconst 0, 1) := by decide +kernel
theorem dX8_link_1 : decode cX8_link 1 = .ok (.istore_n 3, 1) := by decide +kernel
theorem dX8_link_2 : decode cX8_link 2 = .ok (.iload_n 3, 1) := by decide +kernel
theorem dX8_link_3 : decode cX8_link 3 = .ok (.bipush 16, 2) := by decide +kernel
theorem dX8_link_5 : decode cX8_link 5 = .ok (.if_icmp .ge 35, 3) := by decide +kernel
theorem dX8_link_8 : decode cX8_link 8 = .ok (.aload_n 0, 1) := by decide +kernel
theorem dX8_link_9 : decode cX8_link 9 = .ok (.iload_n 1, 1) := by decide +kernel
theorem dX8_link_10 : decode cX8_link 10 = .ok (.invokevirtual 121, 3) := by decide +kernel
theorem dX8_link_13 : decode cX8_link 13 = .ok (.iload_n 3, 1) := by decide +kernel
theorem dX8_link_14 : decode cX8_link 14 = .ok (.invokestatic 98, 3) := by decide +kernel
theorem dX8_link_17 : decode cX8_link 17 = .ok (.ifCond .eq 17, 3) := by decide +kernel
theorem dX8_link_20 : decode cX8_link 20 = .ok (.aload_n 0, 1) := by decide +kernel
theorem dX8_link_21 : decode cX8_link 21 = .ok (.getfield 52, 3) := by decide +kernel
theorem dX8_link_24 : decode cX8_link 24 = .ok (.iload_n 3, 1) := by decide +kernel
theorem dX8_link_25 : decode cX8_link 25 = .ok (.invokevirtual 124, 3) := by decide +kernel
theorem dX8_link_28 : decode cX8_link 28 = .ok (.iload_n 2, 1) := by decide +kernel
theorem dX8_link_29 : decode cX8_link 29 = .ok (.if_icmp .ne 5, 3) := by decide +kernel
theorem dX8_link_32 : decode cX8_link 32 = .ok (.iload_n 3, 1) := by decide +kernel
theorem dX8_link_33 : decode cX8_link 33 = .ok (.ireturn, 1) := by decide +kernel
theorem dX8_link_34 : decode cX8_link 34 = .ok (.iinc 3 1, 3) := by decide +kernel
theorem dX8_link_37 : decode cX8_link 37 = .ok (.goto (-35), 3) := by decide +kernel
theorem dX8_link_40 : decode cX8_link 40 = .ok (.iconst (-1), 1) := by decide +kernel
theorem dX8_link_41 : decode cX8_link 41 = .ok (.ireturn, 1) := by decide +kernel
theorem dX8_atDepth_0 : decode cX8_atDepth 0 = .ok (.iconst 0, 1) := by decide +kernel
theorem dX8_atDepth_1 : decode cX8_atDepth 1 = .ok (.istore_n 2, 1) := by decide +kernel
theorem dX8_atDepth_2 : decode cX8_atDepth 2 = .ok (.iconst 0, 1) := by decide +kernel
theorem dX8_atDepth_3 : decode cX8_atDepth 3 = .ok (.istore_n 3, 1) := by decide +kernel
theorem dX8_atDepth_4 : decode cX8_atDepth 4 = .ok (.iload_n 3, 1) := by decide +kernel
theorem dX8_atDepth_5 : decode cX8_atDepth 5 = .ok (.bipush 16, 2) := by decide +kernel
theorem dX8_atDepth_7 : decode cX8_atDepth 7 = .ok (.if_icmp .ge 36, 3) := by decide +kernel
theorem dX8_atDepth_10 : decode cX8_atDepth 10 = .ok (.aload_n 0, 1) := by decide +kernel
theorem dX8_atDepth_11 : decode cX8_atDepth 11 = .ok (.iload_n 3, 1) := by decide +kernel
theorem dX8_atDepth_12 : decode cX8_atDepth 12 = .ok (.invokevirtual 90, 3) := by decide +kernel
theorem dX8_atDepth_15 : decode cX8_atDepth 15 = .ok (.ifCond .eq 22, 3) := by decide +kernel
theorem dX8_atDepth_18 : decode cX8_atDepth 18 = .ok (.aload_n 0, 1) := by decide +kernel
theorem dX8_atDepth_19 : decode cX8_atDepth 19 = .ok (.getfield 52, 3) := by decide +kernel
theorem dX8_atDepth_22 : decode cX8_atDepth 22 = .ok (.iload_n 3, 1) := by decide +kernel
theorem dX8_atDepth_23 : decode cX8_atDepth 23 = .ok (.invokevirtual 124, 3) := by decide +kernel
theorem dX8_atDepth_26 : decode cX8_atDepth 26 = .ok (.iload_n 1, 1) := by decide +kernel
theorem dX8_atDepth_27 : decode cX8_atDepth 27 = .ok (.if_icmp .ne 10, 3) := by decide +kernel
theorem dX8_atDepth_30 : decode cX8_atDepth 30 = .ok (.iload_n 2, 1) := by decide +kernel
theorem dX8_atDepth_31 : decode cX8_atDepth 31 = .ok (.iload_n 3, 1) := by decide +kernel
theorem dX8_atDepth_32 : decode cX8_atDepth 32 = .ok (.invokestatic 75, 3) := by decide +kernel
theorem dX8_atDepth_35 : decode cX8_atDepth 35 = .ok (.ior, 1) := by decide +kernel
theorem dX8_atDepth_36 : decode cX8_atDepth 36 = .ok (.istore_n 2, 1) := by decide +kernel
theorem dX8_atDepth_37 : decode cX8_atDepth 37 = .ok (.iinc 3 1, 3) := by decide +kernel
theorem dX8_atDepth_40 : decode cX8_atDepth 40 = .ok (.goto (-36), 3) := by decide +kernel
theorem dX8_atDepth_43 : decode cX8_atDepth 43 = .ok (.iload_n 2, 1) := by decide +kernel
theorem dX8_atDepth_44 : decode cX8_atDepth 44 = .ok (.ireturn, 1) := by decide +kernel
theorem dX8_walked_0 : decode cX8_walked 0 = .ok (.aload_n 0, 1) := by decide +kernel
theorem dX8_walked_1 : decode cX8_walked 1 = .ok (.getfield 22, 3) := by decide +kernel
theorem dX8_walked_4 : decode cX8_walked 4 = .ok (.iconst 0, 1) := by decide +kernel
theorem dX8_walked_5 : decode cX8_walked 5 = .ok (.aload_n 0, 1) := by decide +kernel
theorem dX8_walked_6 : decode cX8_walked 6 = .ok (.getfield 58, 3) := by decide +kernel
theorem dX8_walked_9 : decode cX8_walked 9 = .ok (.getfield 71, 3) := by decide +kernel
theorem dX8_walked_12 : decode cX8_walked 12 = .ok (.invokestatic 102, 3) := by decide +kernel
theorem dX8_walked_15 : decode cX8_walked 15 = .ok (.iconst 1, 1) := by decide +kernel
theorem dX8_walked_16 : decode cX8_walked 16 = .ok (.istore_n 2, 1) := by decide +kernel
theorem dX8_walked_17 : decode cX8_walked 17 = .ok (.iconst 0, 1) := by decide +kernel
theorem dX8_walked_18 : decode cX8_walked 18 = .ok (.istore_n 3, 1) := by decide +kernel
theorem dX8_walked_19 : decode cX8_walked 19 = .ok (.iload_n 3, 1) := by decide +kernel
theorem dX8_walked_20 : decode cX8_walked 20 = .ok (.bipush 16, 2) := by decide +kernel
theorem dX8_walked_22 : decode cX8_walked 22 = .ok (.if_icmp .ge 79, 3) := by decide +kernel
theorem dX8_walked_25 : decode cX8_walked 25 = .ok (.iload_n 2, 1) := by decide +kernel
theorem dX8_walked_26 : decode cX8_walked 26 = .ok (.ifCond .le 75, 3) := by decide +kernel
theorem dX8_walked_29 : decode cX8_walked 29 = .ok (.iinc 2 (-1), 3) := by decide +kernel
theorem dX8_walked_32 : decode cX8_walked 32 = .ok (.aload_n 0, 1) := by decide +kernel
theorem dX8_walked_33 : decode cX8_walked 33 = .ok (.getfield 22, 3) := by decide +kernel
theorem dX8_walked_36 : decode cX8_walked 36 = .ok (.iload_n 2, 1) := by decide +kernel
theorem dX8_walked_37 : decode cX8_walked 37 = .ok (.invokestatic 94, 3) := by decide +kernel
theorem dX8_walked_40 : decode cX8_walked 40 = .ok (.istore 4, 2) := by decide +kernel
theorem dX8_walked_42 : decode cX8_walked 42 = .ok (.iload_n 3, 1) := by decide +kernel
theorem dX8_walked_43 : decode cX8_walked 43 = .ok (.iload_n 1, 1) := by decide +kernel
theorem dX8_walked_44 : decode cX8_walked 44 = .ok (.if_icmp .ne 6, 3) := by decide +kernel
theorem dX8_walked_47 : decode cX8_walked 47 = .ok (.iload 4, 2) := by decide +kernel
theorem dX8_walked_49 : decode cX8_walked 49 = .ok (.ireturn, 1) := by decide +kernel
theorem dX8_walked_50 : decode cX8_walked 50 = .ok (.bipush 15, 2) := by decide +kernel
theorem dX8_walked_52 : decode cX8_walked 52 = .ok (.istore 5, 2) := by decide +kernel
theorem dX8_walked_54 : decode cX8_walked 54 = .ok (.iload 5, 2) := by decide +kernel
theorem dX8_walked_56 : decode cX8_walked 56 = .ok (.ifCond .lt 39, 3) := by decide +kernel
theorem dX8_walked_59 : decode cX8_walked 59 = .ok (.aload_n 0, 1) := by decide +kernel
theorem dX8_walked_60 : decode cX8_walked 60 = .ok (.getfield 52, 3) := by decide +kernel
theorem dX8_walked_63 : decode cX8_walked 63 = .ok (.getfield 109, 3) := by decide +kernel
theorem dX8_walked_66 : decode cX8_walked 66 = .ok (.iload 5, 2) := by decide +kernel
theorem dX8_walked_68 : decode cX8_walked 68 = .ok (.invokestatic 94, 3) := by decide +kernel
theorem dX8_walked_71 : decode cX8_walked 71 = .ok (.iload 4, 2) := by decide +kernel
theorem dX8_walked_73 : decode cX8_walked 73 = .ok (.if_icmp .ne 16, 3) := by decide +kernel
theorem dX8_walked_76 : decode cX8_walked 76 = .ok (.aload_n 0, 1) := by decide +kernel
theorem dX8_walked_77 : decode cX8_walked 77 = .ok (.getfield 22, 3) := by decide +kernel
theorem dX8_walked_80 : decode cX8_walked 80 = .ok (.iload_n 2, 1) := by decide +kernel
theorem dX8_walked_81 : decode cX8_walked 81 = .ok (.iload 5, 2) := by decide +kernel
theorem dX8_walked_83 : decode cX8_walked 83 = .ok (.invokestatic 102, 3) := by decide +kernel
theorem dX8_walked_86 : decode cX8_walked 86 = .ok (.iinc 2 1, 3) := by decide +kernel
theorem dX8_walked_89 : decode cX8_walked 89 = .ok (.iinc 5 (-1), 3) := by decide +kernel
theorem dX8_walked_92 : decode cX8_walked 92 = .ok (.goto (-38), 3) := by decide +kernel
theorem dX8_walked_95 : decode cX8_walked 95 = .ok (.iinc 3 1, 3) := by decide +kernel
theorem dX8_walked_98 : decode cX8_walked 98 = .ok (.goto (-79), 3) := by decide +kernel
theorem dX8_walked_101 : decode cX8_walked 101 = .ok (.iconst (-1), 1) := by decide +kernel
theorem dX8_walked_102 : decode cX8_walked 102 = .ok (.ireturn, 1) := by decide +kernel
theorem dX8_sealed_0 : decode cX8_sealed 0 = .ok (.aload_n 0, 1) := by decide +kernel
theorem dX8_sealed_1 : decode cX8_sealed 1 = .ok (.getfield 52, 3) := by decide +kernel
theorem dX8_sealed_4 : decode cX8_sealed 4 = .ok (.getfield 106, 3) := by decide +kernel
theorem dX8_sealed_7 : decode cX8_sealed 7 = .ok (.iload_n 1, 1) := by decide +kernel
theorem dX8_sealed_8 : decode cX8_sealed 8 = .ok (.iconst (-1), 1) := by decide +kernel
theorem dX8_sealed_9 : decode cX8_sealed 9 = .ok (.ixor, 1) := by decide +kernel
theorem dX8_sealed_10 : decode cX8_sealed 10 = .ok (.iand, 1) := by decide +kernel
theorem dX8_sealed_11 : decode cX8_sealed 11 = .ok (.aload_n 0, 1) := by decide +kernel
theorem dX8_sealed_12 : decode cX8_sealed 12 = .ok (.getfield 52, 3) := by decide +kernel
theorem dX8_sealed_15 : decode cX8_sealed 15 = .ok (.getfield 62, 3) := by decide +kernel
theorem dX8_sealed_18 : decode cX8_sealed 18 = .ok (.aload_n 0, 1) := by decide +kernel
theorem dX8_sealed_19 : decode cX8_sealed 19 = .ok (.getfield 58, 3) := by decide +kernel
theorem dX8_sealed_22 : decode cX8_sealed 22 = .ok (.getfield 71, 3) := by decide +kernel
theorem dX8_sealed_25 : decode cX8_sealed 25 = .ok (.invokestatic 75, 3) := by decide +kernel
theorem dX8_sealed_28 : decode cX8_sealed 28 = .ok (.iload_n 1, 1) := by decide +kernel
theorem dX8_sealed_29 : decode cX8_sealed 29 = .ok (.invokestatic 127, 3) := by decide +kernel
theorem dX8_sealed_32 : decode cX8_sealed 32 = .ok (.iconst (-1), 1) := by decide +kernel
theorem dX8_sealed_33 : decode cX8_sealed 33 = .ok (.ixor, 1) := by decide +kernel
theorem dX8_sealed_34 : decode cX8_sealed 34 = .ok (.iand, 1) := by decide +kernel
theorem dX8_sealed_35 : decode cX8_sealed 35 = .ok (.ireturn, 1) := by decide +kernel
theorem dX8_between_0 : decode cX8_between 0 = .ok (.aload_n 0, 1) := by decide +kernel
theorem dX8_between_1 : decode cX8_between 1 = .ok (.getfield 52, 3) := by decide +kernel
theorem dX8_between_4 : decode cX8_between 4 = .ok (.getfield 62, 3) := by decide +kernel
theorem dX8_between_7 : decode cX8_between 7 = .ok (.iload_n 1, 1) := by decide +kernel
theorem dX8_between_8 : decode cX8_between 8 = .ok (.invokestatic 75, 3) := by decide +kernel
theorem dX8_between_11 : decode cX8_between 11 = .ok (.iconst 0, 1) := by decide +kernel
theorem dX8_between_12 : decode cX8_between 12 = .ok (.invokestatic 127, 3) := by decide +kernel
theorem dX8_between_15 : decode cX8_between 15 = .ok (.istore_n 3, 1) := by decide +kernel
theorem dX8_between_16 : decode cX8_between 16 = .ok (.iload_n 3, 1) := by decide +kernel
theorem dX8_between_17 : decode cX8_between 17 = .ok (.iload_n 2, 1) := by decide +kernel
theorem dX8_between_18 : decode cX8_between 18 = .ok (.invokestatic 98, 3) := by decide +kernel
theorem dX8_between_21 : decode cX8_between 21 = .ok (.ifCond .ne 5, 3) := by decide +kernel
theorem dX8_between_24 : decode cX8_between 24 = .ok (.iconst (-1), 1) := by decide +kernel
theorem dX8_between_25 : decode cX8_between 25 = .ok (.ireturn, 1) := by decide +kernel
theorem dX8_between_26 : decode cX8_between 26 = .ok (.iconst 0, 1) := by decide +kernel
theorem dX8_between_27 : decode cX8_between 27 = .ok (.istore 4, 2) := by decide +kernel
theorem dX8_between_29 : decode cX8_between 29 = .ok (.iload_n 3, 1) := by decide +kernel
theorem dX8_between_30 : decode cX8_between 30 = .ok (.iload_n 1, 1) := by decide +kernel
theorem dX8_between_31 : decode cX8_between 31 = .ok (.invokestatic 75, 3) := by decide +kernel
theorem dX8_between_34 : decode cX8_between 34 = .ok (.iconst (-1), 1) := by decide +kernel
theorem dX8_between_35 : decode cX8_between 35 = .ok (.ixor, 1) := by decide +kernel
theorem dX8_between_36 : decode cX8_between 36 = .ok (.iand, 1) := by decide +kernel
theorem dX8_between_37 : decode cX8_between 37 = .ok (.iload_n 2, 1) := by decide +kernel
theorem dX8_between_38 : decode cX8_between 38 = .ok (.invokestatic 75, 3) := by decide +kernel
theorem dX8_between_41 : decode cX8_between 41 = .ok (.iconst (-1), 1) := by decide +kernel
theorem dX8_between_42 : decode cX8_between 42 = .ok (.ixor, 1) := by decide +kernel
theorem dX8_between_43 : decode cX8_between 43 = .ok (.iand, 1) := by decide +kernel
theorem dX8_between_44 : decode cX8_between 44 = .ok (.istore 5, 2) := by decide +kernel
theorem dX8_between_46 : decode cX8_between 46 = .ok (.iconst 0, 1) := by decide +kernel
theorem dX8_between_47 : decode cX8_between 47 = .ok (.istore 6, 2) := by decide +kernel
theorem dX8_between_49 : decode cX8_between 49 = .ok (.iload 6, 2) := by decide +kernel
theorem dX8_between_51 : decode cX8_between 51 = .ok (.bipush 16, 2) := by decide +kernel
theorem dX8_between_53 : decode cX8_between 53 = .ok (.if_icmp .ge 55, 3) := by decide +kernel
theorem dX8_between_56 : decode cX8_between 56 = .ok (.iload 5, 2) := by decide +kernel
theorem dX8_between_58 : decode cX8_between 58 = .ok (.iload 6, 2) := by decide +kernel
theorem dX8_between_60 : decode cX8_between 60 = .ok (.invokestatic 98, 3) := by decide +kernel
theorem dX8_between_63 : decode cX8_between 63 = .ok (.ifCond .eq 39, 3) := by decide +kernel
theorem dX8_between_66 : decode cX8_between 66 = .ok (.aload_n 0, 1) := by decide +kernel
theorem dX8_between_67 : decode cX8_between 67 = .ok (.getfield 52, 3) := by decide +kernel
theorem dX8_between_70 : decode cX8_between 70 = .ok (.getfield 62, 3) := by decide +kernel
theorem dX8_between_73 : decode cX8_between 73 = .ok (.iload_n 1, 1) := by decide +kernel
theorem dX8_between_74 : decode cX8_between 74 = .ok (.invokestatic 75, 3) := by decide +kernel
theorem dX8_between_77 : decode cX8_between 77 = .ok (.iload 6, 2) := by decide +kernel
theorem dX8_between_79 : decode cX8_between 79 = .ok (.invokestatic 75, 3) := by decide +kernel
theorem dX8_between_82 : decode cX8_between 82 = .ok (.invokestatic 127, 3) := by decide +kernel
theorem dX8_between_85 : decode cX8_between 85 = .ok (.iload_n 2, 1) := by decide +kernel
theorem dX8_between_86 : decode cX8_between 86 = .ok (.invokestatic 98, 3) := by decide +kernel
theorem dX8_between_89 : decode cX8_between 89 = .ok (.ifCond .ne 13, 3) := by decide +kernel
theorem dX8_between_92 : decode cX8_between 92 = .ok (.iload 4, 2) := by decide +kernel
theorem dX8_between_94 : decode cX8_between 94 = .ok (.iload 6, 2) := by decide +kernel
theorem dX8_between_96 : decode cX8_between 96 = .ok (.invokestatic 75, 3) := by decide +kernel
theorem dX8_between_99 : decode cX8_between 99 = .ok (.ior, 1) := by decide +kernel
theorem dX8_between_100 : decode cX8_between 100 = .ok (.istore 4, 2) := by decide +kernel
theorem dX8_between_102 : decode cX8_between 102 = .ok (.iinc 6 1, 3) := by decide +kernel
theorem dX8_between_105 : decode cX8_between 105 = .ok (.goto (-56), 3) := by decide +kernel
theorem dX8_between_108 : decode cX8_between 108 = .ok (.iload 4, 2) := by decide +kernel
theorem dX8_between_110 : decode cX8_between 110 = .ok (.ireturn, 1) := by decide +kernel
theorem dX8_near_0 : decode cX8_near 0 = .ok (.aload_n 0, 1) := by decide +kernel
theorem dX8_near_1 : decode cX8_near 1 = .ok (.getfield 58, 3) := by decide +kernel
theorem dX8_near_4 : decode cX8_near 4 = .ok (.getfield 71, 3) := by decide +kernel
theorem dX8_near_7 : decode cX8_near 7 = .ok (.invokestatic 75, 3) := by decide +kernel
theorem dX8_near_10 : decode cX8_near 10 = .ok (.istore_n 2, 1) := by decide +kernel
theorem dX8_near_11 : decode cX8_near 11 = .ok (.iload_n 2, 1) := by decide +kernel
theorem dX8_near_12 : decode cX8_near 12 = .ok (.istore_n 3, 1) := by decide +kernel
theorem dX8_near_13 : decode cX8_near 13 = .ok (.iconst 0, 1) := by decide +kernel
theorem dX8_near_14 : decode cX8_near 14 = .ok (.istore 4, 2) := by decide +kernel
theorem dX8_near_16 : decode cX8_near 16 = .ok (.iload 4, 2) := by decide +kernel
theorem dX8_near_18 : decode cX8_near 18 = .ok (.bipush 16, 2) := by decide +kernel
theorem dX8_near_20 : decode cX8_near 20 = .ok (.if_icmp .ge 34, 3) := by decide +kernel
theorem dX8_near_23 : decode cX8_near 23 = .ok (.iload_n 2, 1) := by decide +kernel
theorem dX8_near_24 : decode cX8_near 24 = .ok (.iload_n 1, 1) := by decide +kernel
theorem dX8_near_25 : decode cX8_near 25 = .ok (.invokestatic 98, 3) := by decide +kernel
theorem dX8_near_28 : decode cX8_near 28 = .ok (.ifCond .eq 6, 3) := by decide +kernel
theorem dX8_near_31 : decode cX8_near 31 = .ok (.iload 4, 2) := by decide +kernel
theorem dX8_near_33 : decode cX8_near 33 = .ok (.ireturn, 1) := by decide +kernel
theorem dX8_near_34 : decode cX8_near 34 = .ok (.aload_n 0, 1) := by decide +kernel
theorem dX8_near_35 : decode cX8_near 35 = .ok (.iload_n 2, 1) := by decide +kernel
theorem dX8_near_36 : decode cX8_near 36 = .ok (.invokevirtual 118, 3) := by decide +kernel
theorem dX8_near_39 : decode cX8_near 39 = .ok (.iload_n 3, 1) := by decide +kernel
theorem dX8_near_40 : decode cX8_near 40 = .ok (.iconst (-1), 1) := by decide +kernel
theorem dX8_near_41 : decode cX8_near 41 = .ok (.ixor, 1) := by decide +kernel
theorem dX8_near_42 : decode cX8_near 42 = .ok (.iand, 1) := by decide +kernel
theorem dX8_near_43 : decode cX8_near 43 = .ok (.istore_n 2, 1) := by decide +kernel
theorem dX8_near_44 : decode cX8_near 44 = .ok (.iload_n 3, 1) := by decide +kernel
theorem dX8_near_45 : decode cX8_near 45 = .ok (.iload_n 2, 1) := by decide +kernel
theorem dX8_near_46 : decode cX8_near 46 = .ok (.ior, 1) := by decide +kernel
theorem dX8_near_47 : decode cX8_near 47 = .ok (.istore_n 3, 1) := by decide +kernel
theorem dX8_near_48 : decode cX8_near 48 = .ok (.iinc 4 1, 3) := by decide +kernel
theorem dX8_near_51 : decode cX8_near 51 = .ok (.goto (-35), 3) := by decide +kernel
theorem dX8_near_54 : decode cX8_near 54 = .ok (.iconst (-1), 1) := by decide +kernel
theorem dX8_near_55 : decode cX8_near 55 = .ok (.ireturn, 1) := by decide +kernel
theorem dX8_inRow_0 : decode cX8_inRow 0 = .ok (.aload_n 0, 1) := by decide +kernel
theorem dX8_inRow_1 : decode cX8_inRow 1 = .ok (.getfield 58, 3) := by decide +kernel
theorem dX8_inRow_4 : decode cX8_inRow 4 = .ok (.getfield 71, 3) := by decide +kernel
theorem dX8_inRow_7 : decode cX8_inRow 7 = .ok (.invokestatic 75, 3) := by decide +kernel
theorem dX8_inRow_10 : decode cX8_inRow 10 = .ok (.istore_n 2, 1) := by decide +kernel
theorem dX8_inRow_11 : decode cX8_inRow 11 = .ok (.iload_n 2, 1) := by decide +kernel
theorem dX8_inRow_12 : decode cX8_inRow 12 = .ok (.istore_n 3, 1) := by decide +kernel
theorem dX8_inRow_13 : decode cX8_inRow 13 = .ok (.iload_n 1, 1) := by decide +kernel
theorem dX8_inRow_14 : decode cX8_inRow 14 = .ok (.istore 4, 2) := by decide +kernel
theorem dX8_inRow_16 : decode cX8_inRow 16 = .ok (.iconst 0, 1) := by decide +kernel
theorem dX8_inRow_17 : decode cX8_inRow 17 = .ok (.istore 5, 2) := by decide +kernel
theorem dX8_inRow_19 : decode cX8_inRow 19 = .ok (.iload 5, 2) := by decide +kernel
theorem dX8_inRow_21 : decode cX8_inRow 21 = .ok (.bipush 16, 2) := by decide +kernel
theorem dX8_inRow_23 : decode cX8_inRow 23 = .ok (.if_icmp .ge 64, 3) := by decide +kernel
theorem dX8_inRow_26 : decode cX8_inRow 26 = .ok (.iload 4, 2) := by decide +kernel
theorem dX8_inRow_28 : decode cX8_inRow 28 = .ok (.ifCond .lt 59, 3) := by decide +kernel
theorem dX8_inRow_31 : decode cX8_inRow 31 = .ok (.iconst 0, 1) := by decide +kernel
theorem dX8_inRow_32 : decode cX8_inRow 32 = .ok (.istore 6, 2) := by decide +kernel
theorem dX8_inRow_34 : decode cX8_inRow 34 = .ok (.iload 6, 2) := by decide +kernel
theorem dX8_inRow_36 : decode cX8_inRow 36 = .ok (.bipush 16, 2) := by decide +kernel
theorem dX8_inRow_38 : decode cX8_inRow 38 = .ok (.if_icmp .ge 29, 3) := by decide +kernel
theorem dX8_inRow_41 : decode cX8_inRow 41 = .ok (.iload_n 2, 1) := by decide +kernel
theorem dX8_inRow_42 : decode cX8_inRow 42 = .ok (.iload 6, 2) := by decide +kernel
theorem dX8_inRow_44 : decode cX8_inRow 44 = .ok (.invokestatic 98, 3) := by decide +kernel
theorem dX8_inRow_47 : decode cX8_inRow 47 = .ok (.ifCond .eq 14, 3) := by decide +kernel
theorem dX8_inRow_50 : decode cX8_inRow 50 = .ok (.iload 4, 2) := by decide +kernel
theorem dX8_inRow_52 : decode cX8_inRow 52 = .ok (.ifCond .ne 6, 3) := by decide +kernel
theorem dX8_inRow_55 : decode cX8_inRow 55 = .ok (.iload 6, 2) := by decide +kernel
theorem dX8_inRow_57 : decode cX8_inRow 57 = .ok (.ireturn, 1) := by decide +kernel
theorem dX8_inRow_58 : decode cX8_inRow 58 = .ok (.iinc 4 (-1), 3) := by decide +kernel
theorem dX8_inRow_61 : decode cX8_inRow 61 = .ok (.iinc 6 1, 3) := by decide +kernel
theorem dX8_inRow_64 : decode cX8_inRow 64 = .ok (.goto (-30), 3) := by decide +kernel
theorem dX8_inRow_67 : decode cX8_inRow 67 = .ok (.aload_n 0, 1) := by decide +kernel
theorem dX8_inRow_68 : decode cX8_inRow 68 = .ok (.iload_n 2, 1) := by decide +kernel
theorem dX8_inRow_69 : decode cX8_inRow 69 = .ok (.invokevirtual 118, 3) := by decide +kernel
theorem dX8_inRow_72 : decode cX8_inRow 72 = .ok (.iload_n 3, 1) := by decide +kernel
theorem dX8_inRow_73 : decode cX8_inRow 73 = .ok (.iconst (-1), 1) := by decide +kernel
theorem dX8_inRow_74 : decode cX8_inRow 74 = .ok (.ixor, 1) := by decide +kernel
theorem dX8_inRow_75 : decode cX8_inRow 75 = .ok (.iand, 1) := by decide +kernel
theorem dX8_inRow_76 : decode cX8_inRow 76 = .ok (.istore_n 2, 1) := by decide +kernel
theorem dX8_inRow_77 : decode cX8_inRow 77 = .ok (.iload_n 3, 1) := by decide +kernel
theorem dX8_inRow_78 : decode cX8_inRow 78 = .ok (.iload_n 2, 1) := by decide +kernel
theorem dX8_inRow_79 : decode cX8_inRow 79 = .ok (.ior, 1) := by decide +kernel
theorem dX8_inRow_80 : decode cX8_inRow 80 = .ok (.istore_n 3, 1) := by decide +kernel
theorem dX8_inRow_81 : decode cX8_inRow 81 = .ok (.iinc 5 1, 3) := by decide +kernel
theorem dX8_inRow_84 : decode cX8_inRow 84 = .ok (.goto (-65), 3) := by decide +kernel
theorem dX8_inRow_87 : decode cX8_inRow 87 = .ok (.iconst (-1), 1) := by decide +kernel
theorem dX8_inRow_88 : decode cX8_inRow 88 = .ok (.ireturn, 1) := by decide +kernel
theorem dX8_tollsOf_0 : decode cX8_tollsOf 0 = .ok (.iconst 0, 1) := by decide +kernel
theorem dX8_tollsOf_1 : decode cX8_tollsOf 1 = .ok (.istore_n 2, 1) := by decide +kernel
theorem dX8_tollsOf_2 : decode cX8_tollsOf 2 = .ok (.iconst 0, 1) := by decide +kernel
theorem dX8_tollsOf_3 : decode cX8_tollsOf 3 = .ok (.istore_n 3, 1) := by decide +kernel
theorem dX8_tollsOf_4 : decode cX8_tollsOf 4 = .ok (.iload_n 3, 1) := by decide +kernel
theorem dX8_tollsOf_5 : decode cX8_tollsOf 5 = .ok (.bipush 16, 2) := by decide +kernel
theorem dX8_tollsOf_7 : decode cX8_tollsOf 7 = .ok (.if_icmp .ge 31, 3) := by decide +kernel
theorem dX8_tollsOf_10 : decode cX8_tollsOf 10 = .ok (.iload_n 1, 1) := by decide +kernel
theorem dX8_tollsOf_11 : decode cX8_tollsOf 11 = .ok (.iload_n 3, 1) := by decide +kernel
theorem dX8_tollsOf_12 : decode cX8_tollsOf 12 = .ok (.invokestatic 98, 3) := by decide +kernel
theorem dX8_tollsOf_15 : decode cX8_tollsOf 15 = .ok (.ifCond .eq 17, 3) := by decide +kernel
theorem dX8_tollsOf_18 : decode cX8_tollsOf 18 = .ok (.iload_n 2, 1) := by decide +kernel
theorem dX8_tollsOf_19 : decode cX8_tollsOf 19 = .ok (.aload_n 0, 1) := by decide +kernel
theorem dX8_tollsOf_20 : decode cX8_tollsOf 20 = .ok (.getfield 58, 3) := by decide +kernel
theorem dX8_tollsOf_23 : decode cX8_tollsOf 23 = .ok (.getfield 131, 3) := by decide +kernel
theorem dX8_tollsOf_26 : decode cX8_tollsOf 26 = .ok (.iload_n 3, 1) := by decide +kernel
theorem dX8_tollsOf_27 : decode cX8_tollsOf 27 = .ok (.invokestatic 94, 3) := by decide +kernel
theorem dX8_tollsOf_30 : decode cX8_tollsOf 30 = .ok (.iadd, 1) := by decide +kernel
theorem dX8_tollsOf_31 : decode cX8_tollsOf 31 = .ok (.istore_n 2, 1) := by decide +kernel
theorem dX8_tollsOf_32 : decode cX8_tollsOf 32 = .ok (.iinc 3 1, 3) := by decide +kernel
theorem dX8_tollsOf_35 : decode cX8_tollsOf 35 = .ok (.goto (-31), 3) := by decide +kernel
theorem dX8_tollsOf_38 : decode cX8_tollsOf 38 = .ok (.iload_n 2, 1) := by decide +kernel
theorem dX8_tollsOf_39 : decode cX8_tollsOf 39 = .ok (.ireturn, 1) := by decide +kernel
theorem dX8_fee_0 : decode cX8_fee 0 = .ok (.aload_n 0, 1) := by decide +kernel
theorem dX8_fee_1 : decode cX8_fee 1 = .ok (.iload_n 1, 1) := by decide +kernel
theorem dX8_fee_2 : decode cX8_fee 2 = .ok (.invokevirtual 90, 3) := by decide +kernel
theorem dX8_fee_5 : decode cX8_fee 5 = .ok (.ifCond .eq 15, 3) := by decide +kernel
theorem dX8_fee_8 : decode cX8_fee 8 = .ok (.aload_n 0, 1) := by decide +kernel
theorem dX8_fee_9 : decode cX8_fee 9 = .ok (.aload_n 0, 1) := by decide +kernel
theorem dX8_fee_10 : decode cX8_fee 10 = .ok (.iload_n 1, 1) := by decide +kernel
theorem dX8_fee_11 : decode cX8_fee 11 = .ok (.invokevirtual 121, 3) := by decide +kernel
theorem dX8_fee_14 : decode cX8_fee 14 = .ok (.invokevirtual 134, 3) := by decide +kernel
theorem dX8_fee_17 : decode cX8_fee 17 = .ok (.goto 4, 3) := by decide +kernel
theorem dX8_fee_20 : decode cX8_fee 20 = .ok (.iconst (-1), 1) := by decide +kernel
theorem dX8_fee_21 : decode cX8_fee 21 = .ok (.ireturn, 1) := by decide +kernel
theorem dX8_fare_0 : decode cX8_fare 0 = .ok (.aload_n 0, 1) := by decide +kernel
theorem dX8_fare_1 : decode cX8_fare 1 = .ok (.getfield 25, 3) := by decide +kernel
theorem dX8_fare_4 : decode cX8_fare 4 = .ok (.iconst (-1), 1) := by decide +kernel
theorem dX8_fare_5 : decode cX8_fare 5 = .ok (.invokestatic 137, 3) := by decide +kernel
theorem dX8_fare_8 : decode cX8_fare 8 = .ok (.aload_n 0, 1) := by decide +kernel
theorem dX8_fare_9 : decode cX8_fare 9 = .ok (.getfield 25, 3) := by decide +kernel
theorem dX8_fare_12 : decode cX8_fare 12 = .ok (.aload_n 0, 1) := by decide +kernel
theorem dX8_fare_13 : decode cX8_fare 13 = .ok (.getfield 58, 3) := by decide +kernel
theorem dX8_fare_16 : decode cX8_fare 16 = .ok (.getfield 71, 3) := by decide +kernel
theorem dX8_fare_19 : decode cX8_fare 19 = .ok (.aload_n 0, 1) := by decide +kernel
theorem dX8_fare_20 : decode cX8_fare 20 = .ok (.getfield 58, 3) := by decide +kernel
theorem dX8_fare_23 : decode cX8_fare 23 = .ok (.getfield 131, 3) := by decide +kernel
theorem dX8_fare_26 : decode cX8_fare 26 = .ok (.aload_n 0, 1) := by decide +kernel
theorem dX8_fare_27 : decode cX8_fare 27 = .ok (.getfield 58, 3) := by decide +kernel
theorem dX8_fare_30 : decode cX8_fare 30 = .ok (.getfield 71, 3) := by decide +kernel
theorem dX8_fare_33 : decode cX8_fare 33 = .ok (.invokestatic 94, 3) := by decide +kernel
theorem dX8_fare_36 : decode cX8_fare 36 = .ok (.invokestatic 102, 3) := by decide +kernel
theorem dX8_fare_39 : decode cX8_fare 39 = .ok (.aload_n 0, 1) := by decide +kernel
theorem dX8_fare_40 : decode cX8_fare 40 = .ok (.getfield 52, 3) := by decide +kernel
theorem dX8_fare_43 : decode cX8_fare 43 = .ok (.getfield 106, 3) := by decide +kernel
theorem dX8_fare_46 : decode cX8_fare 46 = .ok (.istore_n 2, 1) := by decide +kernel
theorem dX8_fare_47 : decode cX8_fare 47 = .ok (.iconst 0, 1) := by decide +kernel
theorem dX8_fare_48 : decode cX8_fare 48 = .ok (.istore_n 3, 1) := by decide +kernel
theorem dX8_fare_49 : decode cX8_fare 49 = .ok (.iload_n 3, 1) := by decide +kernel
theorem dX8_fare_50 : decode cX8_fare 50 = .ok (.bipush 16, 2) := by decide +kernel
theorem dX8_fare_52 : decode cX8_fare 52 = .ok (.if_icmp .ge 42, 3) := by decide +kernel
theorem dX8_fare_55 : decode cX8_fare 55 = .ok (.aload_n 0, 1) := by decide +kernel
theorem dX8_fare_56 : decode cX8_fare 56 = .ok (.iload_n 2, 1) := by decide +kernel
theorem dX8_fare_57 : decode cX8_fare 57 = .ok (.invokevirtual 140, 3) := by decide +kernel
theorem dX8_fare_60 : decode cX8_fare 60 = .ok (.istore 4, 2) := by decide +kernel
theorem dX8_fare_62 : decode cX8_fare 62 = .ok (.iload 4, 2) := by decide +kernel
theorem dX8_fare_64 : decode cX8_fare 64 = .ok (.iconst (-1), 1) := by decide +kernel
theorem dX8_fare_65 : decode cX8_fare 65 = .ok (.if_icmp .ne 6, 3) := by decide +kernel
theorem dX8_fare_68 : decode cX8_fare 68 = .ok (.goto 26, 3) := by decide +kernel
theorem dX8_fare_71 : decode cX8_fare 71 = .ok (.iload_n 2, 1) := by decide +kernel
theorem dX8_fare_72 : decode cX8_fare 72 = .ok (.iload 4, 2) := by decide +kernel
theorem dX8_fare_74 : decode cX8_fare 74 = .ok (.invokestatic 75, 3) := by decide +kernel
theorem dX8_fare_77 : decode cX8_fare 77 = .ok (.iconst (-1), 1) := by decide +kernel
theorem dX8_fare_78 : decode cX8_fare 78 = .ok (.ixor, 1) := by decide +kernel
theorem dX8_fare_79 : decode cX8_fare 79 = .ok (.iand, 1) := by decide +kernel
theorem dX8_fare_80 : decode cX8_fare 80 = .ok (.istore_n 2, 1) := by decide +kernel
theorem dX8_fare_81 : decode cX8_fare 81 = .ok (.aload_n 0, 1) := by decide +kernel
theorem dX8_fare_82 : decode cX8_fare 82 = .ok (.iload 4, 2) := by decide +kernel
theorem dX8_fare_84 : decode cX8_fare 84 = .ok (.iload_n 2, 1) := by decide +kernel
theorem dX8_fare_85 : decode cX8_fare 85 = .ok (.invokevirtual 143, 3) := by decide +kernel
theorem dX8_fare_88 : decode cX8_fare 88 = .ok (.iinc 3 1, 3) := by decide +kernel
theorem dX8_fare_91 : decode cX8_fare 91 = .ok (.goto (-42), 3) := by decide +kernel
theorem dX8_fare_94 : decode cX8_fare 94 = .ok (.aload_n 0, 1) := by decide +kernel
theorem dX8_fare_95 : decode cX8_fare 95 = .ok (.getfield 25, 3) := by decide +kernel
theorem dX8_fare_98 : decode cX8_fare 98 = .ok (.iload_n 1, 1) := by decide +kernel
theorem dX8_fare_99 : decode cX8_fare 99 = .ok (.invokestatic 94, 3) := by decide +kernel
theorem dX8_fare_102 : decode cX8_fare 102 = .ok (.ireturn, 1) := by decide +kernel
theorem dX8_cheapest_0 : decode cX8_cheapest 0 = .ok (.iconst (-1), 1) := by decide +kernel
theorem dX8_cheapest_1 : decode cX8_cheapest 1 = .ok (.istore_n 2, 1) := by decide +kernel
theorem dX8_cheapest_2 : decode cX8_cheapest 2 = .ok (.iconst 0, 1) := by decide +kernel
theorem dX8_cheapest_3 : decode cX8_cheapest 3 = .ok (.istore_n 3, 1) := by decide +kernel
theorem dX8_cheapest_4 : decode cX8_cheapest 4 = .ok (.iload_n 3, 1) := by decide +kernel
theorem dX8_cheapest_5 : decode cX8_cheapest 5 = .ok (.bipush 16, 2) := by decide +kernel
theorem dX8_cheapest_7 : decode cX8_cheapest 7 = .ok (.if_icmp .ge 67, 3) := by decide +kernel
theorem dX8_cheapest_10 : decode cX8_cheapest 10 = .ok (.iload_n 1, 1) := by decide +kernel
theorem dX8_cheapest_11 : decode cX8_cheapest 11 = .ok (.iload_n 3, 1) := by decide +kernel
theorem dX8_cheapest_12 : decode cX8_cheapest 12 = .ok (.invokestatic 98, 3) := by decide +kernel
theorem dX8_cheapest_15 : decode cX8_cheapest 15 = .ok (.ifCond .eq 19, 3) := by decide +kernel
theorem dX8_cheapest_18 : decode cX8_cheapest 18 = .ok (.aload_n 0, 1) := by decide +kernel
theorem dX8_cheapest_19 : decode cX8_cheapest 19 = .ok (.getfield 25, 3) := by decide +kernel
theorem dX8_cheapest_22 : decode cX8_cheapest 22 = .ok (.iload_n 3, 1) := by decide +kernel
theorem dX8_cheapest_23 : decode cX8_cheapest 23 = .ok (.invokestatic 94, 3) := by decide +kernel
theorem dX8_cheapest_26 : decode cX8_cheapest 26 = .ok (.iconst (-1), 1) := by decide +kernel
theorem dX8_cheapest_27 : decode cX8_cheapest 27 = .ok (.if_icmp .eq 7, 3) := by decide +kernel
theorem dX8_cheapest_30 : decode cX8_cheapest 30 = .ok (.iconst 1, 1) := by decide +kernel
theorem dX8_cheapest_31 : decode cX8_cheapest 31 = .ok (.goto 4, 3) := by decide +kernel
theorem dX8_cheapest_34 : decode cX8_cheapest 34 = .ok (.iconst 0, 1) := by decide +kernel
theorem dX8_cheapest_35 : decode cX8_cheapest 35 = .ok (.istore 4, 2) := by decide +kernel
theorem dX8_cheapest_37 : decode cX8_cheapest 37 = .ok (.iload 4, 2) := by decide +kernel
theorem dX8_cheapest_39 : decode cX8_cheapest 39 = .ok (.ifCond .eq 29, 3) := by decide +kernel
theorem dX8_cheapest_42 : decode cX8_cheapest 42 = .ok (.iload_n 2, 1) := by decide +kernel
theorem dX8_cheapest_43 : decode cX8_cheapest 43 = .ok (.iconst (-1), 1) := by decide +kernel
theorem dX8_cheapest_44 : decode cX8_cheapest 44 = .ok (.if_icmp .eq 22, 3) := by decide +kernel
theorem dX8_cheapest_47 : decode cX8_cheapest 47 = .ok (.aload_n 0, 1) := by decide +kernel
theorem dX8_cheapest_48 : decode cX8_cheapest 48 = .ok (.getfield 25, 3) := by decide +kernel
theorem dX8_cheapest_51 : decode cX8_cheapest 51 = .ok (.iload_n 3, 1) := by decide +kernel
theorem dX8_cheapest_52 : decode cX8_cheapest 52 = .ok (.invokestatic 94, 3) := by decide +kernel
theorem dX8_cheapest_55 : decode cX8_cheapest 55 = .ok (.aload_n 0, 1) := by decide +kernel
theorem dX8_cheapest_56 : decode cX8_cheapest 56 = .ok (.getfield 25, 3) := by decide +kernel
theorem dX8_cheapest_59 : decode cX8_cheapest 59 = .ok (.iload_n 2, 1) := by decide +kernel
theorem dX8_cheapest_60 : decode cX8_cheapest 60 = .ok (.invokestatic 94, 3) := by decide +kernel
theorem dX8_cheapest_63 : decode cX8_cheapest 63 = .ok (.if_icmp .ge 5, 3) := by decide +kernel
theorem dX8_cheapest_66 : decode cX8_cheapest 66 = .ok (.iload_n 3, 1) := by decide +kernel
theorem dX8_cheapest_67 : decode cX8_cheapest 67 = .ok (.istore_n 2, 1) := by decide +kernel
theorem dX8_cheapest_68 : decode cX8_cheapest 68 = .ok (.iinc 3 1, 3) := by decide +kernel
theorem dX8_cheapest_71 : decode cX8_cheapest 71 = .ok (.goto (-67), 3) := by decide +kernel
theorem dX8_cheapest_74 : decode cX8_cheapest 74 = .ok (.iload_n 2, 1) := by decide +kernel
theorem dX8_cheapest_75 : decode cX8_cheapest 75 = .ok (.ireturn, 1) := by decide +kernel
theorem dX8_payFrom_0 : decode cX8_payFrom 0 = .ok (.aload_n 0, 1) := by decide +kernel
theorem dX8_payFrom_1 : decode cX8_payFrom 1 = .ok (.getfield 52, 3) := by decide +kernel
theorem dX8_payFrom_4 : decode cX8_payFrom 4 = .ok (.getfield 62, 3) := by decide +kernel
theorem dX8_payFrom_7 : decode cX8_payFrom 7 = .ok (.iload_n 1, 1) := by decide +kernel
theorem dX8_payFrom_8 : decode cX8_payFrom 8 = .ok (.invokestatic 94, 3) := by decide +kernel
theorem dX8_payFrom_11 : decode cX8_payFrom 11 = .ok (.iload_n 2, 1) := by decide +kernel
theorem dX8_payFrom_12 : decode cX8_payFrom 12 = .ok (.iand, 1) := by decide +kernel
theorem dX8_payFrom_13 : decode cX8_payFrom 13 = .ok (.istore_n 3, 1) := by decide +kernel
theorem dX8_payFrom_14 : decode cX8_payFrom 14 = .ok (.iconst 0, 1) := by decide +kernel
theorem dX8_payFrom_15 : decode cX8_payFrom 15 = .ok (.istore 4, 2) := by decide +kernel
theorem dX8_payFrom_17 : decode cX8_payFrom 17 = .ok (.iload 4, 2) := by decide +kernel
theorem dX8_payFrom_19 : decode cX8_payFrom 19 = .ok (.bipush 16, 2) := by decide +kernel
theorem dX8_payFrom_21 : decode cX8_payFrom 21 = .ok (.if_icmp .ge 91, 3) := by decide +kernel
theorem dX8_payFrom_24 : decode cX8_payFrom 24 = .ok (.aload_n 0, 1) := by decide +kernel
theorem dX8_payFrom_25 : decode cX8_payFrom 25 = .ok (.getfield 25, 3) := by decide +kernel
theorem dX8_payFrom_28 : decode cX8_payFrom 28 = .ok (.iload_n 1, 1) := by decide +kernel
theorem dX8_payFrom_29 : decode cX8_payFrom 29 = .ok (.invokestatic 94, 3) := by decide +kernel
theorem dX8_payFrom_32 : decode cX8_payFrom 32 = .ok (.aload_n 0, 1) := by decide +kernel
theorem dX8_payFrom_33 : decode cX8_payFrom 33 = .ok (.getfield 58, 3) := by decide +kernel
theorem dX8_payFrom_36 : decode cX8_payFrom 36 = .ok (.getfield 131, 3) := by decide +kernel
theorem dX8_payFrom_39 : decode cX8_payFrom 39 = .ok (.iload 4, 2) := by decide +kernel
theorem dX8_payFrom_41 : decode cX8_payFrom 41 = .ok (.invokestatic 94, 3) := by decide +kernel
theorem dX8_payFrom_44 : decode cX8_payFrom 44 = .ok (.iadd, 1) := by decide +kernel
theorem dX8_payFrom_45 : decode cX8_payFrom 45 = .ok (.istore 5, 2) := by decide +kernel
theorem dX8_payFrom_47 : decode cX8_payFrom 47 = .ok (.aload_n 0, 1) := by decide +kernel
theorem dX8_payFrom_48 : decode cX8_payFrom 48 = .ok (.getfield 25, 3) := by decide +kernel
theorem dX8_payFrom_51 : decode cX8_payFrom 51 = .ok (.iload 4, 2) := by decide +kernel
theorem dX8_payFrom_53 : decode cX8_payFrom 53 = .ok (.invokestatic 94, 3) := by decide +kernel
theorem dX8_payFrom_56 : decode cX8_payFrom 56 = .ok (.iconst (-1), 1) := by decide +kernel
theorem dX8_payFrom_57 : decode cX8_payFrom 57 = .ok (.if_icmp .eq 17, 3) := by decide +kernel
theorem dX8_payFrom_60 : decode cX8_payFrom 60 = .ok (.iload 5, 2) := by decide +kernel
theorem dX8_payFrom_62 : decode cX8_payFrom 62 = .ok (.aload_n 0, 1) := by decide +kernel
theorem dX8_payFrom_63 : decode cX8_payFrom 63 = .ok (.getfield 25, 3) := by decide +kernel
theorem dX8_payFrom_66 : decode cX8_payFrom 66 = .ok (.iload 4, 2) := by decide +kernel
theorem dX8_payFrom_68 : decode cX8_payFrom 68 = .ok (.invokestatic 94, 3) := by decide +kernel
theorem dX8_payFrom_71 : decode cX8_payFrom 71 = .ok (.if_icmp .ge 7, 3) := by decide +kernel
theorem dX8_payFrom_74 : decode cX8_payFrom 74 = .ok (.iconst 1, 1) := by decide +kernel
theorem dX8_payFrom_75 : decode cX8_payFrom 75 = .ok (.goto 4, 3) := by decide +kernel
theorem dX8_payFrom_78 : decode cX8_payFrom 78 = .ok (.iconst 0, 1) := by decide +kernel
theorem dX8_payFrom_79 : decode cX8_payFrom 79 = .ok (.istore 6, 2) := by decide +kernel
theorem dX8_payFrom_81 : decode cX8_payFrom 81 = .ok (.iload_n 3, 1) := by decide +kernel
theorem dX8_payFrom_82 : decode cX8_payFrom 82 = .ok (.iload 4, 2) := by decide +kernel
theorem dX8_payFrom_84 : decode cX8_payFrom 84 = .ok (.invokestatic 98, 3) := by decide +kernel
theorem dX8_payFrom_87 : decode cX8_payFrom 87 = .ok (.ifCond .eq 19, 3) := by decide +kernel
theorem dX8_payFrom_90 : decode cX8_payFrom 90 = .ok (.iload 6, 2) := by decide +kernel
theorem dX8_payFrom_92 : decode cX8_payFrom 92 = .ok (.ifCond .eq 14, 3) := by decide +kernel
theorem dX8_payFrom_95 : decode cX8_payFrom 95 = .ok (.aload_n 0, 1) := by decide +kernel
theorem dX8_payFrom_96 : decode cX8_payFrom 96 = .ok (.getfield 25, 3) := by decide +kernel
theorem dX8_payFrom_99 : decode cX8_payFrom 99 = .ok (.iload 4, 2) := by decide +kernel
theorem dX8_payFrom_101 : decode cX8_payFrom 101 = .ok (.iload 5, 2) := by decide +kernel
theorem dX8_payFrom_103 : decode cX8_payFrom 103 = .ok (.invokestatic 102, 3) := by decide +kernel
theorem dX8_payFrom_106 : decode cX8_payFrom 106 = .ok (.iinc 4 1, 3) := by decide +kernel
theorem dX8_payFrom_109 : decode cX8_payFrom 109 = .ok (.goto (-92), 3) := by decide +kernel
theorem dX8_payFrom_112 : decode cX8_payFrom 112 = .ok (.return_, 1) := by decide +kernel
theorem dX8_hard_0 : decode cX8_hard 0 = .ok (.iload_n 1, 1) := by decide +kernel
theorem dX8_hard_1 : decode cX8_hard 1 = .ok (.aload_n 0, 1) := by decide +kernel
theorem dX8_hard_2 : decode cX8_hard 2 = .ok (.getfield 58, 3) := by decide +kernel
theorem dX8_hard_5 : decode cX8_hard 5 = .ok (.getfield 71, 3) := by decide +kernel
theorem dX8_hard_8 : decode cX8_hard 8 = .ok (.if_icmp .ne 6, 3) := by decide +kernel
theorem dX8_hard_11 : decode cX8_hard 11 = .ok (.bipush 99, 2) := by decide +kernel
theorem dX8_hard_13 : decode cX8_hard 13 = .ok (.ireturn, 1) := by decide +kernel
theorem dX8_hard_14 : decode cX8_hard 14 = .ok (.aload_n 0, 1) := by decide +kernel
theorem dX8_hard_15 : decode cX8_hard 15 = .ok (.getfield 41, 3) := by decide +kernel
theorem dX8_hard_18 : decode cX8_hard 18 = .ok (.invokevirtual 147, 3) := by decide +kernel
theorem dX8_hard_21 : decode cX8_hard 21 = .ok (.iconst 0, 1) := by decide +kernel
theorem dX8_hard_22 : decode cX8_hard 22 = .ok (.istore_n 2, 1) := by decide +kernel
theorem dX8_hard_23 : decode cX8_hard 23 = .ok (.iload_n 2, 1) := by decide +kernel
theorem dX8_hard_24 : decode cX8_hard 24 = .ok (.aload_n 0, 1) := by decide +kernel
theorem dX8_hard_25 : decode cX8_hard 25 = .ok (.getfield 58, 3) := by decide +kernel
theorem dX8_hard_28 : decode cX8_hard 28 = .ok (.getfield 150, 3) := by decide +kernel
theorem dX8_hard_31 : decode cX8_hard 31 = .ok (.if_icmp .ge 56, 3) := by decide +kernel
theorem dX8_hard_34 : decode cX8_hard 34 = .ok (.iload_n 2, 1) := by decide +kernel
theorem dX8_hard_35 : decode cX8_hard 35 = .ok (.bipush 60, 2) := by decide +kernel
theorem dX8_hard_37 : decode cX8_hard 37 = .ok (.if_icmp .ge 50, 3) := by decide +kernel
theorem dX8_hard_40 : decode cX8_hard 40 = .ok (.aload_n 0, 1) := by decide +kernel
theorem dX8_hard_41 : decode cX8_hard 41 = .ok (.getfield 58, 3) := by decide +kernel
theorem dX8_hard_44 : decode cX8_hard 44 = .ok (.iload_n 2, 1) := by decide +kernel
theorem dX8_hard_45 : decode cX8_hard 45 = .ok (.invokevirtual 153, 3) := by decide +kernel
theorem dX8_hard_48 : decode cX8_hard 48 = .ok (.ifCond .eq 33, 3) := by decide +kernel
theorem dX8_hard_51 : decode cX8_hard 51 = .ok (.aload_n 0, 1) := by decide +kernel
theorem dX8_hard_52 : decode cX8_hard 52 = .ok (.getfield 41, 3) := by decide +kernel
theorem dX8_hard_55 : decode cX8_hard 55 = .ok (.aload_n 0, 1) := by decide +kernel
theorem dX8_hard_56 : decode cX8_hard 56 = .ok (.getfield 58, 3) := by decide +kernel
theorem dX8_hard_59 : decode cX8_hard 59 = .ok (.getfield 156, 3) := by decide +kernel
theorem dX8_hard_62 : decode cX8_hard 62 = .ok (.iload_n 2, 1) := by decide +kernel
theorem dX8_hard_63 : decode cX8_hard 63 = .ok (.invokestatic 94, 3) := by decide +kernel
theorem dX8_hard_66 : decode cX8_hard 66 = .ok (.aload_n 0, 1) := by decide +kernel
theorem dX8_hard_67 : decode cX8_hard 67 = .ok (.getfield 58, 3) := by decide +kernel
theorem dX8_hard_70 : decode cX8_hard 70 = .ok (.getfield 159, 3) := by decide +kernel
theorem dX8_hard_73 : decode cX8_hard 73 = .ok (.iload_n 2, 1) := by decide +kernel
theorem dX8_hard_74 : decode cX8_hard 74 = .ok (.invokestatic 94, 3) := by decide +kernel
theorem dX8_hard_77 : decode cX8_hard 77 = .ok (.iconst 1, 1) := by decide +kernel
theorem dX8_hard_78 : decode cX8_hard 78 = .ok (.invokevirtual 162, 3) := by decide +kernel
theorem dX8_hard_81 : decode cX8_hard 81 = .ok (.iinc 2 1, 3) := by decide +kernel
theorem dX8_hard_84 : decode cX8_hard 84 = .ok (.goto (-61), 3) := by decide +kernel
theorem dX8_hard_87 : decode cX8_hard 87 = .ok (.aload_n 0, 1) := by decide +kernel
theorem dX8_hard_88 : decode cX8_hard 88 = .ok (.getfield 41, 3) := by decide +kernel
theorem dX8_hard_91 : decode cX8_hard 91 = .ok (.aload_n 0, 1) := by decide +kernel
theorem dX8_hard_92 : decode cX8_hard 92 = .ok (.getfield 58, 3) := by decide +kernel
theorem dX8_hard_95 : decode cX8_hard 95 = .ok (.getfield 71, 3) := by decide +kernel
theorem dX8_hard_98 : decode cX8_hard 98 = .ok (.iload_n 1, 1) := by decide +kernel
theorem dX8_hard_99 : decode cX8_hard 99 = .ok (.invokevirtual 166, 3) := by decide +kernel
theorem dX8_hard_102 : decode cX8_hard 102 = .ok (.ireturn, 1) := by decide +kernel
theorem dX8_wall_0 : decode cX8_wall 0 = .ok (.iload_n 1, 1) := by decide +kernel
theorem dX8_wall_1 : decode cX8_wall 1 = .ok (.aload_n 0, 1) := by decide +kernel
theorem dX8_wall_2 : decode cX8_wall 2 = .ok (.getfield 58, 3) := by decide +kernel
theorem dX8_wall_5 : decode cX8_wall 5 = .ok (.getfield 71, 3) := by decide +kernel
theorem dX8_wall_8 : decode cX8_wall 8 = .ok (.if_icmp .eq 27, 3) := by decide +kernel
theorem dX8_wall_11 : decode cX8_wall 11 = .ok (.aload_n 0, 1) := by decide +kernel
theorem dX8_wall_12 : decode cX8_wall 12 = .ok (.getfield 52, 3) := by decide +kernel
theorem dX8_wall_15 : decode cX8_wall 15 = .ok (.getfield 62, 3) := by decide +kernel
theorem dX8_wall_18 : decode cX8_wall 18 = .ok (.aload_n 0, 1) := by decide +kernel
theorem dX8_wall_19 : decode cX8_wall 19 = .ok (.getfield 58, 3) := by decide +kernel
theorem dX8_wall_22 : decode cX8_wall 22 = .ok (.getfield 71, 3) := by decide +kernel
theorem dX8_wall_25 : decode cX8_wall 25 = .ok (.invokestatic 94, 3) := by decide +kernel
theorem dX8_wall_28 : decode cX8_wall 28 = .ok (.iload_n 1, 1) := by decide +kernel
theorem dX8_wall_29 : decode cX8_wall 29 = .ok (.invokestatic 98, 3) := by decide +kernel
theorem dX8_wall_32 : decode cX8_wall 32 = .ok (.ifCond .eq 5, 3) := by decide +kernel
theorem dX8_wall_35 : decode cX8_wall 35 = .ok (.iconst (-1), 1) := by decide +kernel
theorem dX8_wall_36 : decode cX8_wall 36 = .ok (.ireturn, 1) := by decide +kernel
theorem dX8_wall_37 : decode cX8_wall 37 = .ok (.aload_n 0, 1) := by decide +kernel
theorem dX8_wall_38 : decode cX8_wall 38 = .ok (.getfield 41, 3) := by decide +kernel
theorem dX8_wall_41 : decode cX8_wall 41 = .ok (.invokevirtual 147, 3) := by decide +kernel
theorem dX8_wall_44 : decode cX8_wall 44 = .ok (.iconst 0, 1) := by decide +kernel
theorem dX8_wall_45 : decode cX8_wall 45 = .ok (.istore_n 2, 1) := by decide +kernel
theorem dX8_wall_46 : decode cX8_wall 46 = .ok (.iload_n 2, 1) := by decide +kernel
theorem dX8_wall_47 : decode cX8_wall 47 = .ok (.aload_n 0, 1) := by decide +kernel
theorem dX8_wall_48 : decode cX8_wall 48 = .ok (.getfield 58, 3) := by decide +kernel
theorem dX8_wall_51 : decode cX8_wall 51 = .ok (.getfield 170, 3) := by decide +kernel
theorem dX8_wall_54 : decode cX8_wall 54 = .ok (.if_icmp .ge 94, 3) := by decide +kernel
theorem dX8_wall_57 : decode cX8_wall 57 = .ok (.iload_n 2, 1) := by decide +kernel
theorem dX8_wall_58 : decode cX8_wall 58 = .ok (.bipush 16, 2) := by decide +kernel
theorem dX8_wall_60 : decode cX8_wall 60 = .ok (.if_icmp .ge 88, 3) := by decide +kernel
theorem dX8_wall_63 : decode cX8_wall 63 = .ok (.iload_n 2, 1) := by decide +kernel
theorem dX8_wall_64 : decode cX8_wall 64 = .ok (.aload_n 0, 1) := by decide +kernel
theorem dX8_wall_65 : decode cX8_wall 65 = .ok (.getfield 58, 3) := by decide +kernel
theorem dX8_wall_68 : decode cX8_wall 68 = .ok (.getfield 71, 3) := by decide +kernel
theorem dX8_wall_71 : decode cX8_wall 71 = .ok (.if_icmp .eq 21, 3) := by decide +kernel
theorem dX8_wall_74 : decode cX8_wall 74 = .ok (.iload_n 2, 1) := by decide +kernel
theorem dX8_wall_75 : decode cX8_wall 75 = .ok (.iload_n 1, 1) := by decide +kernel
theorem dX8_wall_76 : decode cX8_wall 76 = .ok (.if_icmp .eq 16, 3) := by decide +kernel
theorem dX8_wall_79 : decode cX8_wall 79 = .ok (.aload_n 0, 1) := by decide +kernel
theorem dX8_wall_80 : decode cX8_wall 80 = .ok (.getfield 41, 3) := by decide +kernel
theorem dX8_wall_83 : decode cX8_wall 83 = .ok (.iload_n 2, 1) := by decide +kernel
theorem dX8_wall_84 : decode cX8_wall 84 = .ok (.iload_n 2, 1) := by decide +kernel
theorem dX8_wall_85 : decode cX8_wall 85 = .ok (.bipush 16, 2) := by decide +kernel
theorem dX8_wall_87 : decode cX8_wall 87 = .ok (.iadd, 1) := by decide +kernel
theorem dX8_wall_88 : decode cX8_wall 88 = .ok (.iconst 1, 1) := by decide +kernel
theorem dX8_wall_89 : decode cX8_wall 89 = .ok (.invokevirtual 162, 3) := by decide +kernel
theorem dX8_wall_92 : decode cX8_wall 92 = .ok (.iconst 0, 1) := by decide +kernel
theorem dX8_wall_93 : decode cX8_wall 93 = .ok (.istore_n 3, 1) := by decide +kernel
theorem dX8_wall_94 : decode cX8_wall 94 = .ok (.iload_n 3, 1) := by decide +kernel
theorem dX8_wall_95 : decode cX8_wall 95 = .ok (.bipush 16, 2) := by decide +kernel
theorem dX8_wall_97 : decode cX8_wall 97 = .ok (.if_icmp .ge 45, 3) := by decide +kernel
theorem dX8_wall_100 : decode cX8_wall 100 = .ok (.iload_n 3, 1) := by decide +kernel
theorem dX8_wall_101 : decode cX8_wall 101 = .ok (.iload_n 2, 1) := by decide +kernel
theorem dX8_wall_102 : decode cX8_wall 102 = .ok (.if_icmp .eq 34, 3) := by decide +kernel
theorem dX8_wall_105 : decode cX8_wall 105 = .ok (.aload_n 0, 1) := by decide +kernel
theorem dX8_wall_106 : decode cX8_wall 106 = .ok (.getfield 52, 3) := by decide +kernel
theorem dX8_wall_109 : decode cX8_wall 109 = .ok (.getfield 62, 3) := by decide +kernel
theorem dX8_wall_112 : decode cX8_wall 112 = .ok (.iload_n 2, 1) := by decide +kernel
theorem dX8_wall_113 : decode cX8_wall 113 = .ok (.invokestatic 94, 3) := by decide +kernel
theorem dX8_wall_116 : decode cX8_wall 116 = .ok (.iload_n 3, 1) := by decide +kernel
theorem dX8_wall_117 : decode cX8_wall 117 = .ok (.invokestatic 98, 3) := by decide +kernel
theorem dX8_wall_120 : decode cX8_wall 120 = .ok (.ifCond .eq 16, 3) := by decide +kernel
theorem dX8_wall_123 : decode cX8_wall 123 = .ok (.aload_n 0, 1) := by decide +kernel
theorem dX8_wall_124 : decode cX8_wall 124 = .ok (.getfield 41, 3) := by decide +kernel
theorem dX8_wall_127 : decode cX8_wall 127 = .ok (.iload_n 2, 1) := by decide +kernel
theorem dX8_wall_128 : decode cX8_wall 128 = .ok (.bipush 16, 2) := by decide +kernel
theorem dX8_wall_130 : decode cX8_wall 130 = .ok (.iadd, 1) := by decide +kernel
theorem dX8_wall_131 : decode cX8_wall 131 = .ok (.iload_n 3, 1) := by decide +kernel
theorem dX8_wall_132 : decode cX8_wall 132 = .ok (.iconst 1, 1) := by decide +kernel
theorem dX8_wall_133 : decode cX8_wall 133 = .ok (.invokevirtual 162, 3) := by decide +kernel
theorem dX8_wall_136 : decode cX8_wall 136 = .ok (.iinc 3 1, 3) := by decide +kernel
theorem dX8_wall_139 : decode cX8_wall 139 = .ok (.goto (-45), 3) := by decide +kernel
theorem dX8_wall_142 : decode cX8_wall 142 = .ok (.iinc 2 1, 3) := by decide +kernel
theorem dX8_wall_145 : decode cX8_wall 145 = .ok (.goto (-99), 3) := by decide +kernel
theorem dX8_wall_148 : decode cX8_wall 148 = .ok (.aload_n 0, 1) := by decide +kernel
theorem dX8_wall_149 : decode cX8_wall 149 = .ok (.getfield 41, 3) := by decide +kernel
theorem dX8_wall_152 : decode cX8_wall 152 = .ok (.aload_n 0, 1) := by decide +kernel
theorem dX8_wall_153 : decode cX8_wall 153 = .ok (.getfield 58, 3) := by decide +kernel
theorem dX8_wall_156 : decode cX8_wall 156 = .ok (.getfield 71, 3) := by decide +kernel
theorem dX8_wall_159 : decode cX8_wall 159 = .ok (.bipush 16, 2) := by decide +kernel
theorem dX8_wall_161 : decode cX8_wall 161 = .ok (.iadd, 1) := by decide +kernel
theorem dX8_wall_162 : decode cX8_wall 162 = .ok (.iload_n 1, 1) := by decide +kernel
theorem dX8_wall_163 : decode cX8_wall 163 = .ok (.invokevirtual 166, 3) := by decide +kernel
theorem dX8_wall_166 : decode cX8_wall 166 = .ok (.ireturn, 1) := by decide +kernel
theorem dX8_weighOut_0 : decode cX8_weighOut 0 = .ok (.aload_n 0, 1) := by decide +kernel
theorem dX8_weighOut_1 : decode cX8_weighOut 1 = .ok (.getfield 18, 3) := by decide +kernel
theorem dX8_weighOut_4 : decode cX8_weighOut 4 = .ok (.aload_n 0, 1) := by decide +kernel
theorem dX8_weighOut_5 : decode cX8_weighOut 5 = .ok (.getfield 12, 3) := by decide +kernel
theorem dX8_weighOut_8 : decode cX8_weighOut 8 = .ok (.getfield 62, 3) := by decide +kernel
theorem dX8_weighOut_11 : decode cX8_weighOut 11 = .ok (.invokestatic 173, 3) := by decide +kernel
theorem dX8_weighOut_14 : decode cX8_weighOut 14 = .ok (.aload_n 0, 1) := by decide +kernel
theorem dX8_weighOut_15 : decode cX8_weighOut 15 = .ok (.getfield 12, 3) := by decide +kernel
theorem dX8_weighOut_18 : decode cX8_weighOut 18 = .ok (.aload_n 0, 1) := by decide +kernel
theorem dX8_weighOut_19 : decode cX8_weighOut 19 = .ok (.getfield 58, 3) := by decide +kernel
theorem dX8_weighOut_22 : decode cX8_weighOut 22 = .ok (.getfield 177, 3) := by decide +kernel
theorem dX8_weighOut_25 : decode cX8_weighOut 25 = .ok (.invokestatic 75, 3) := by decide +kernel
theorem dX8_weighOut_28 : decode cX8_weighOut 28 = .ok (.aload_n 0, 1) := by decide +kernel
theorem dX8_weighOut_29 : decode cX8_weighOut 29 = .ok (.getfield 52, 3) := by decide +kernel
theorem dX8_weighOut_32 : decode cX8_weighOut 32 = .ok (.getfield 106, 3) := by decide +kernel
theorem dX8_weighOut_35 : decode cX8_weighOut 35 = .ok (.iand, 1) := by decide +kernel
theorem dX8_weighOut_36 : decode cX8_weighOut 36 = .ok (.invokevirtual 79, 3) := by decide +kernel
theorem dX8_weighOut_39 : decode cX8_weighOut 39 = .ok (.return_, 1) := by decide +kernel
theorem dX8_outKeeper_0 : decode cX8_outKeeper 0 = .ok (.aload_n 0, 1) := by decide +kernel
theorem dX8_outKeeper_1 : decode cX8_outKeeper 1 = .ok (.invokevirtual 180, 3) := by decide +kernel
theorem dX8_outKeeper_4 : decode cX8_outKeeper 4 = .ok (.aload_n 0, 1) := by decide +kernel
theorem dX8_outKeeper_5 : decode cX8_outKeeper 5 = .ok (.getfield 12, 3) := by decide +kernel
theorem dX8_outKeeper_8 : decode cX8_outKeeper 8 = .ok (.getfield 109, 3) := by decide +kernel
theorem dX8_outKeeper_11 : decode cX8_outKeeper 11 = .ok (.iload_n 1, 1) := by decide +kernel
theorem dX8_outKeeper_12 : decode cX8_outKeeper 12 = .ok (.invokestatic 94, 3) := by decide +kernel
theorem dX8_outKeeper_15 : decode cX8_outKeeper 15 = .ok (.ireturn, 1) := by decide +kernel
theorem dX8_outGates_0 : decode cX8_outGates 0 = .ok (.aload_n 0, 1) := by decide +kernel
theorem dX8_outGates_1 : decode cX8_outGates 1 = .ok (.invokevirtual 180, 3) := by decide +kernel
theorem dX8_outGates_4 : decode cX8_outGates 4 = .ok (.aload_n 0, 1) := by decide +kernel
theorem dX8_outGates_5 : decode cX8_outGates 5 = .ok (.getfield 12, 3) := by decide +kernel
theorem dX8_outGates_8 : decode cX8_outGates 8 = .ok (.getfield 115, 3) := by decide +kernel
theorem dX8_outGates_11 : decode cX8_outGates 11 = .ok (.iload_n 1, 1) := by decide +kernel
theorem dX8_outGates_12 : decode cX8_outGates 12 = .ok (.invokestatic 94, 3) := by decide +kernel
theorem dX8_outGates_15 : decode cX8_outGates 15 = .ok (.ireturn, 1) := by decide +kernel
theorem dX8_controls_0 : decode cX8_controls 0 = .ok (.aload_n 0, 1) := by decide +kernel
theorem dX8_controls_1 : decode cX8_controls 1 = .ok (.invokevirtual 180, 3) := by decide +kernel
theorem dX8_controls_4 : decode cX8_controls 4 = .ok (.aload_n 0, 1) := by decide +kernel
theorem dX8_controls_5 : decode cX8_controls 5 = .ok (.getfield 12, 3) := by decide +kernel
theorem dX8_controls_8 : decode cX8_controls 8 = .ok (.getfield 106, 3) := by decide +kernel
theorem dX8_controls_11 : decode cX8_controls 11 = .ok (.iload_n 1, 1) := by decide +kernel
theorem dX8_controls_12 : decode cX8_controls 12 = .ok (.invokestatic 98, 3) := by decide +kernel
theorem dX8_controls_15 : decode cX8_controls 15 = .ok (.ifCond .ne 5, 3) := by decide +kernel
theorem dX8_controls_18 : decode cX8_controls 18 = .ok (.iconst 0, 1) := by decide +kernel
theorem dX8_controls_19 : decode cX8_controls 19 = .ok (.ireturn, 1) := by decide +kernel
theorem dX8_controls_20 : decode cX8_controls 20 = .ok (.iconst 0, 1) := by decide +kernel
theorem dX8_controls_21 : decode cX8_controls 21 = .ok (.istore_n 2, 1) := by decide +kernel
theorem dX8_controls_22 : decode cX8_controls 22 = .ok (.aload_n 0, 1) := by decide +kernel
theorem dX8_controls_23 : decode cX8_controls 23 = .ok (.getfield 52, 3) := by decide +kernel
theorem dX8_controls_26 : decode cX8_controls 26 = .ok (.getfield 62, 3) := by decide +kernel
theorem dX8_controls_29 : decode cX8_controls 29 = .ok (.iload_n 1, 1) := by decide +kernel
theorem dX8_controls_30 : decode cX8_controls 30 = .ok (.invokestatic 94, 3) := by decide +kernel
theorem dX8_controls_33 : decode cX8_controls 33 = .ok (.aload_n 0, 1) := by decide +kernel
theorem dX8_controls_34 : decode cX8_controls 34 = .ok (.getfield 12, 3) := by decide +kernel
theorem dX8_controls_37 : decode cX8_controls 37 = .ok (.getfield 106, 3) := by decide +kernel
theorem dX8_controls_40 : decode cX8_controls 40 = .ok (.iand, 1) := by decide +kernel
theorem dX8_controls_41 : decode cX8_controls 41 = .ok (.istore_n 3, 1) := by decide +kernel
theorem dX8_controls_42 : decode cX8_controls 42 = .ok (.iconst 0, 1) := by decide +kernel
theorem dX8_controls_43 : decode cX8_controls 43 = .ok (.istore 4, 2) := by decide +kernel
theorem dX8_controls_45 : decode cX8_controls 45 = .ok (.iload 4, 2) := by decide +kernel
theorem dX8_controls_47 : decode cX8_controls 47 = .ok (.bipush 16, 2) := by decide +kernel
theorem dX8_controls_49 : decode cX8_controls 49 = .ok (.if_icmp .ge 39, 3) := by decide +kernel
theorem dX8_controls_52 : decode cX8_controls 52 = .ok (.iload_n 3, 1) := by decide +kernel
theorem dX8_controls_53 : decode cX8_controls 53 = .ok (.iload 4, 2) := by decide +kernel
theorem dX8_controls_55 : decode cX8_controls 55 = .ok (.invokestatic 98, 3) := by decide +kernel
theorem dX8_controls_58 : decode cX8_controls 58 = .ok (.ifCond .eq 24, 3) := by decide +kernel
theorem dX8_controls_61 : decode cX8_controls 61 = .ok (.iload_n 2, 1) := by decide +kernel
theorem dX8_controls_62 : decode cX8_controls 62 = .ok (.iload 4, 2) := by decide +kernel
theorem dX8_controls_64 : decode cX8_controls 64 = .ok (.invokestatic 75, 3) := by decide +kernel
theorem dX8_controls_67 : decode cX8_controls 67 = .ok (.aload_n 0, 1) := by decide +kernel
theorem dX8_controls_68 : decode cX8_controls 68 = .ok (.getfield 12, 3) := by decide +kernel
theorem dX8_controls_71 : decode cX8_controls 71 = .ok (.getfield 115, 3) := by decide +kernel
theorem dX8_controls_74 : decode cX8_controls 74 = .ok (.iload 4, 2) := by decide +kernel
theorem dX8_controls_76 : decode cX8_controls 76 = .ok (.invokestatic 94, 3) := by decide +kernel
theorem dX8_controls_79 : decode cX8_controls 79 = .ok (.ior, 1) := by decide +kernel
theorem dX8_controls_80 : decode cX8_controls 80 = .ok (.ior, 1) := by decide +kernel
theorem dX8_controls_81 : decode cX8_controls 81 = .ok (.istore_n 2, 1) := by decide +kernel
theorem dX8_controls_82 : decode cX8_controls 82 = .ok (.iinc 4 1, 3) := by decide +kernel
theorem dX8_controls_85 : decode cX8_controls 85 = .ok (.goto (-40), 3) := by decide +kernel
theorem dX8_controls_88 : decode cX8_controls 88 = .ok (.iload_n 2, 1) := by decide +kernel
theorem dX8_controls_89 : decode cX8_controls 89 = .ok (.aload_n 0, 1) := by decide +kernel
theorem dX8_controls_90 : decode cX8_controls 90 = .ok (.getfield 12, 3) := by decide +kernel
theorem dX8_controls_93 : decode cX8_controls 93 = .ok (.getfield 115, 3) := by decide +kernel
theorem dX8_controls_96 : decode cX8_controls 96 = .ok (.iload_n 1, 1) := by decide +kernel
theorem dX8_controls_97 : decode cX8_controls 97 = .ok (.invokestatic 94, 3) := by decide +kernel
theorem dX8_controls_100 : decode cX8_controls 100 = .ok (.iconst (-1), 1) := by decide +kernel
theorem dX8_controls_101 : decode cX8_controls 101 = .ok (.ixor, 1) := by decide +kernel
theorem dX8_controls_102 : decode cX8_controls 102 = .ok (.iand, 1) := by decide +kernel
theorem dX8_controls_103 : decode cX8_controls 103 = .ok (.ireturn, 1) := by decide +kernel
theorem dX8_spans_0 : decode cX8_spans 0 = .ok (.aload_n 0, 1) := by decide +kernel
theorem dX8_spans_1 : decode cX8_spans 1 = .ok (.invokevirtual 180, 3) := by decide +kernel
theorem dX8_spans_4 : decode cX8_spans 4 = .ok (.iconst 0, 1) := by decide +kernel
theorem dX8_spans_5 : decode cX8_spans 5 = .ok (.istore_n 1, 1) := by decide +kernel
theorem dX8_spans_6 : decode cX8_spans 6 = .ok (.iconst 0, 1) := by decide +kernel
theorem dX8_spans_7 : decode cX8_spans 7 = .ok (.istore_n 2, 1) := by decide +kernel
theorem dX8_spans_8 : decode cX8_spans 8 = .ok (.iload_n 2, 1) := by decide +kernel
theorem dX8_spans_9 : decode cX8_spans 9 = .ok (.bipush 16, 2) := by decide +kernel
theorem dX8_spans_11 : decode cX8_spans 11 = .ok (.if_icmp .ge 38, 3) := by decide +kernel
theorem dX8_spans_14 : decode cX8_spans 14 = .ok (.iload_n 1, 1) := by decide +kernel
theorem dX8_spans_15 : decode cX8_spans 15 = .ok (.aload_n 0, 1) := by decide +kernel
theorem dX8_spans_16 : decode cX8_spans 16 = .ok (.getfield 52, 3) := by decide +kernel
theorem dX8_spans_19 : decode cX8_spans 19 = .ok (.getfield 112, 3) := by decide +kernel
theorem dX8_spans_22 : decode cX8_spans 22 = .ok (.iload_n 2, 1) := by decide +kernel
theorem dX8_spans_23 : decode cX8_spans 23 = .ok (.invokestatic 94, 3) := by decide +kernel
theorem dX8_spans_26 : decode cX8_spans 26 = .ok (.aload_n 0, 1) := by decide +kernel
theorem dX8_spans_27 : decode cX8_spans 27 = .ok (.getfield 12, 3) := by decide +kernel
theorem dX8_spans_30 : decode cX8_spans 30 = .ok (.getfield 115, 3) := by decide +kernel
theorem dX8_spans_33 : decode cX8_spans 33 = .ok (.iload_n 2, 1) := by decide +kernel
theorem dX8_spans_34 : decode cX8_spans 34 = .ok (.invokestatic 94, 3) := by decide +kernel
theorem dX8_spans_37 : decode cX8_spans 37 = .ok (.iand, 1) := by decide +kernel
theorem dX8_spans_38 : decode cX8_spans 38 = .ok (.invokestatic 183, 3) := by decide +kernel
theorem dX8_spans_41 : decode cX8_spans 41 = .ok (.iadd, 1) := by decide +kernel
theorem dX8_spans_42 : decode cX8_spans 42 = .ok (.istore_n 1, 1) := by decide +kernel
theorem dX8_spans_43 : decode cX8_spans 43 = .ok (.iinc 2 1, 3) := by decide +kernel
theorem dX8_spans_46 : decode cX8_spans 46 = .ok (.goto (-38), 3) := by decide +kernel
theorem dX8_spans_49 : decode cX8_spans 49 = .ok (.iload_n 1, 1) := by decide +kernel
theorem dX8_spans_50 : decode cX8_spans 50 = .ok (.ireturn, 1) := by decide +kernel
theorem dX8_ring_0 : decode cX8_ring 0 = .ok (.aload_n 0, 1) := by decide +kernel
theorem dX8_ring_1 : decode cX8_ring 1 = .ok (.iload_n 1, 1) := by decide +kernel
theorem dX8_ring_2 : decode cX8_ring 2 = .ok (.invokevirtual 90, 3) := by decide +kernel
theorem dX8_ring_5 : decode cX8_ring 5 = .ok (.ifCond .ne 5, 3) := by decide +kernel
theorem dX8_ring_8 : decode cX8_ring 8 = .ok (.iconst 0, 1) := by decide +kernel
theorem dX8_ring_9 : decode cX8_ring 9 = .ok (.ireturn, 1) := by decide +kernel
theorem dX8_ring_10 : decode cX8_ring 10 = .ok (.aload_n 0, 1) := by decide +kernel
theorem dX8_ring_11 : decode cX8_ring 11 = .ok (.getfield 52, 3) := by decide +kernel
theorem dX8_ring_14 : decode cX8_ring 14 = .ok (.getfield 62, 3) := by decide +kernel
theorem dX8_ring_17 : decode cX8_ring 17 = .ok (.iload_n 1, 1) := by decide +kernel
theorem dX8_ring_18 : decode cX8_ring 18 = .ok (.invokestatic 75, 3) := by decide +kernel
theorem dX8_ring_21 : decode cX8_ring 21 = .ok (.iconst 0, 1) := by decide +kernel
theorem dX8_ring_22 : decode cX8_ring 22 = .ok (.invokestatic 127, 3) := by decide +kernel
theorem dX8_ring_25 : decode cX8_ring 25 = .ok (.aload_n 0, 1) := by decide +kernel
theorem dX8_ring_26 : decode cX8_ring 26 = .ok (.getfield 18, 3) := by decide +kernel
theorem dX8_ring_29 : decode cX8_ring 29 = .ok (.iload_n 1, 1) := by decide +kernel
theorem dX8_ring_30 : decode cX8_ring 30 = .ok (.invokestatic 75, 3) := by decide +kernel
theorem dX8_ring_33 : decode cX8_ring 33 = .ok (.iconst 0, 1) := by decide +kernel
theorem dX8_ring_34 : decode cX8_ring 34 = .ok (.invokestatic 127, 3) := by decide +kernel
theorem dX8_ring_37 : decode cX8_ring 37 = .ok (.iand, 1) := by decide +kernel
theorem dX8_ring_38 : decode cX8_ring 38 = .ok (.ireturn, 1) := by decide +kernel
theorem dX8_rings_0 : decode cX8_rings 0 = .ok (.iconst 0, 1) := by decide +kernel
theorem dX8_rings_1 : decode cX8_rings 1 = .ok (.istore_n 1, 1) := by decide +kernel
theorem dX8_rings_2 : decode cX8_rings 2 = .ok (.aload_n 0, 1) := by decide +kernel
theorem dX8_rings_3 : decode cX8_rings 3 = .ok (.getfield 52, 3) := by decide +kernel
theorem dX8_rings_6 : decode cX8_rings 6 = .ok (.getfield 106, 3) := by decide +kernel
theorem dX8_rings_9 : decode cX8_rings 9 = .ok (.istore_n 2, 1) := by decide +kernel
theorem dX8_rings_10 : decode cX8_rings 10 = .ok (.iconst 0, 1) := by decide +kernel
theorem dX8_rings_11 : decode cX8_rings 11 = .ok (.istore_n 3, 1) := by decide +kernel
theorem dX8_rings_12 : decode cX8_rings 12 = .ok (.iload_n 3, 1) := by decide +kernel
theorem dX8_rings_13 : decode cX8_rings 13 = .ok (.bipush 16, 2) := by decide +kernel
theorem dX8_rings_15 : decode cX8_rings 15 = .ok (.if_icmp .ge 29, 3) := by decide +kernel
theorem dX8_rings_18 : decode cX8_rings 18 = .ok (.iload_n 2, 1) := by decide +kernel
theorem dX8_rings_19 : decode cX8_rings 19 = .ok (.ifCond .eq 25, 3) := by decide +kernel
theorem dX8_rings_22 : decode cX8_rings 22 = .ok (.iload_n 2, 1) := by decide +kernel
theorem dX8_rings_23 : decode cX8_rings 23 = .ok (.aload_n 0, 1) := by decide +kernel
theorem dX8_rings_24 : decode cX8_rings 24 = .ok (.iload_n 2, 1) := by decide +kernel
theorem dX8_rings_25 : decode cX8_rings 25 = .ok (.invokestatic 188, 3) := by decide +kernel
theorem dX8_rings_28 : decode cX8_rings 28 = .ok (.invokevirtual 191, 3) := by decide +kernel
theorem dX8_rings_31 : decode cX8_rings 31 = .ok (.iconst (-1), 1) := by decide +kernel
theorem dX8_rings_32 : decode cX8_rings 32 = .ok (.ixor, 1) := by decide +kernel
theorem dX8_rings_33 : decode cX8_rings 33 = .ok (.iand, 1) := by decide +kernel
theorem dX8_rings_34 : decode cX8_rings 34 = .ok (.istore_n 2, 1) := by decide +kernel
theorem dX8_rings_35 : decode cX8_rings 35 = .ok (.iinc 1 1, 3) := by decide +kernel
theorem dX8_rings_38 : decode cX8_rings 38 = .ok (.iinc 3 1, 3) := by decide +kernel
theorem dX8_rings_41 : decode cX8_rings 41 = .ok (.goto (-29), 3) := by decide +kernel
theorem dX8_rings_44 : decode cX8_rings 44 = .ok (.iload_n 1, 1) := by decide +kernel
theorem dX8_rings_45 : decode cX8_rings 45 = .ok (.ireturn, 1) := by decide +kernel
theorem dX8_heads_0 : decode cX8_heads 0 = .ok (.aload_n 0, 1) := by decide +kernel
theorem dX8_heads_1 : decode cX8_heads 1 = .ok (.getfield 34, 3) := by decide +kernel
theorem dX8_heads_4 : decode cX8_heads 4 = .ok (.aload_n 0, 1) := by decide +kernel
theorem dX8_heads_5 : decode cX8_heads 5 = .ok (.getfield 52, 3) := by decide +kernel
theorem dX8_heads_8 : decode cX8_heads 8 = .ok (.aload_n 0, 1) := by decide +kernel
theorem dX8_heads_9 : decode cX8_heads 9 = .ok (.getfield 18, 3) := by decide +kernel
theorem dX8_heads_12 : decode cX8_heads 12 = .ok (.invokevirtual 194, 3) := by decide +kernel
theorem dX8_heads_15 : decode cX8_heads 15 = .ok (.aload_n 0, 1) := by decide +kernel
theorem dX8_heads_16 : decode cX8_heads 16 = .ok (.getfield 34, 3) := by decide +kernel
theorem dX8_heads_19 : decode cX8_heads 19 = .ok (.getfield 197, 3) := by decide +kernel
theorem dX8_heads_22 : decode cX8_heads 22 = .ok (.ireturn, 1) := by decide +kernel
theorem dX8_body_0 : decode cX8_body 0 = .ok (.aload_n 0, 1) := by decide +kernel
theorem dX8_body_1 : decode cX8_body 1 = .ok (.getfield 34, 3) := by decide +kernel
theorem dX8_body_4 : decode cX8_body 4 = .ok (.aload_n 0, 1) := by decide +kernel
theorem dX8_body_5 : decode cX8_body 5 = .ok (.getfield 52, 3) := by decide +kernel
theorem dX8_body_8 : decode cX8_body 8 = .ok (.aload_n 0, 1) := by decide +kernel
theorem dX8_body_9 : decode cX8_body 9 = .ok (.getfield 18, 3) := by decide +kernel
theorem dX8_body_12 : decode cX8_body 12 = .ok (.invokevirtual 194, 3) := by decide +kernel
theorem dX8_body_15 : decode cX8_body 15 = .ok (.aload_n 0, 1) := by decide +kernel
theorem dX8_body_16 : decode cX8_body 16 = .ok (.getfield 34, 3) := by decide +kernel
theorem dX8_body_19 : decode cX8_body 19 = .ok (.getfield 200, 3) := by decide +kernel
theorem dX8_body_22 : decode cX8_body 22 = .ok (.iload_n 1, 1) := by decide +kernel
theorem dX8_body_23 : decode cX8_body 23 = .ok (.invokestatic 94, 3) := by decide +kernel
theorem dX8_body_26 : decode cX8_body 26 = .ok (.ireturn, 1) := by decide +kernel
theorem dX8_nest_0 : decode cX8_nest 0 = .ok (.aload_n 0, 1) := by decide +kernel
theorem dX8_nest_1 : decode cX8_nest 1 = .ok (.getfield 34, 3) := by decide +kernel
theorem dX8_nest_4 : decode cX8_nest 4 = .ok (.aload_n 0, 1) := by decide +kernel
theorem dX8_nest_5 : decode cX8_nest 5 = .ok (.getfield 52, 3) := by decide +kernel
theorem dX8_nest_8 : decode cX8_nest 8 = .ok (.aload_n 0, 1) := by decide +kernel
theorem dX8_nest_9 : decode cX8_nest 9 = .ok (.getfield 18, 3) := by decide +kernel
theorem dX8_nest_12 : decode cX8_nest 12 = .ok (.invokevirtual 194, 3) := by decide +kernel
theorem dX8_nest_15 : decode cX8_nest 15 = .ok (.aload_n 0, 1) := by decide +kernel
theorem dX8_nest_16 : decode cX8_nest 16 = .ok (.getfield 34, 3) := by decide +kernel
theorem dX8_nest_19 : decode cX8_nest 19 = .ok (.iload_n 1, 1) := by decide +kernel
theorem dX8_nest_20 : decode cX8_nest 20 = .ok (.invokevirtual 203, 3) := by decide +kernel
theorem dX8_nest_23 : decode cX8_nest 23 = .ok (.ireturn, 1) := by decide +kernel
theorem dX8_mostNest_0 : decode cX8_mostNest 0 = .ok (.aload_n 0, 1) := by decide +kernel
theorem dX8_mostNest_1 : decode cX8_mostNest 1 = .ok (.getfield 34, 3) := by decide +kernel
theorem dX8_mostNest_4 : decode cX8_mostNest 4 = .ok (.aload_n 0, 1) := by decide +kernel
theorem dX8_mostNest_5 : decode cX8_mostNest 5 = .ok (.getfield 52, 3) := by decide +kernel
theorem dX8_mostNest_8 : decode cX8_mostNest 8 = .ok (.aload_n 0, 1) := by decide +kernel
theorem dX8_mostNest_9 : decode cX8_mostNest 9 = .ok (.getfield 18, 3) := by decide +kernel
theorem dX8_mostNest_12 : decode cX8_mostNest 12 = .ok (.invokevirtual 194, 3) := by decide +kernel
theorem dX8_mostNest_15 : decode cX8_mostNest 15 = .ok (.iconst 0, 1) := by decide +kernel
theorem dX8_mostNest_16 : decode cX8_mostNest 16 = .ok (.istore_n 1, 1) := by decide +kernel
theorem dX8_mostNest_17 : decode cX8_mostNest 17 = .ok (.iconst 0, 1) := by decide +kernel
theorem dX8_mostNest_18 : decode cX8_mostNest 18 = .ok (.istore_n 2, 1) := by decide +kernel
theorem dX8_mostNest_19 : decode cX8_mostNest 19 = .ok (.iload_n 2, 1) := by decide +kernel
theorem dX8_mostNest_20 : decode cX8_mostNest 20 = .ok (.bipush 16, 2) := by decide +kernel
theorem dX8_mostNest_22 : decode cX8_mostNest 22 = .ok (.if_icmp .ge 22, 3) := by decide +kernel
theorem dX8_mostNest_25 : decode cX8_mostNest 25 = .ok (.iload_n 1, 1) := by decide +kernel
theorem dX8_mostNest_26 : decode cX8_mostNest 26 = .ok (.aload_n 0, 1) := by decide +kernel
theorem dX8_mostNest_27 : decode cX8_mostNest 27 = .ok (.getfield 34, 3) := by decide +kernel
theorem dX8_mostNest_30 : decode cX8_mostNest 30 = .ok (.iload_n 2, 1) := by decide +kernel
theorem dX8_mostNest_31 : decode cX8_mostNest 31 = .ok (.invokevirtual 203, 3) := by decide +kernel
theorem dX8_mostNest_34 : decode cX8_mostNest 34 = .ok (.invokestatic 206, 3) := by decide +kernel
theorem dX8_mostNest_37 : decode cX8_mostNest 37 = .ok (.istore_n 1, 1) := by decide +kernel
theorem dX8_mostNest_38 : decode cX8_mostNest 38 = .ok (.iinc 2 1, 3) := by decide +kernel
theorem dX8_mostNest_41 : decode cX8_mostNest 41 = .ok (.goto (-22), 3) := by decide +kernel
theorem dX8_mostNest_44 : decode cX8_mostNest 44 = .ok (.iload_n 1, 1) := by decide +kernel
theorem dX8_mostNest_45 : decode cX8_mostNest 45 = .ok (.ireturn, 1) := by decide +kernel
theorem dX8_inner_0 : decode cX8_inner 0 = .ok (.aload_n 0, 1) := by decide +kernel
theorem dX8_inner_1 : decode cX8_inner 1 = .ok (.getfield 34, 3) := by decide +kernel
theorem dX8_inner_4 : decode cX8_inner 4 = .ok (.aload_n 0, 1) := by decide +kernel
theorem dX8_inner_5 : decode cX8_inner 5 = .ok (.getfield 52, 3) := by decide +kernel
theorem dX8_inner_8 : decode cX8_inner 8 = .ok (.aload_n 0, 1) := by decide +kernel
theorem dX8_inner_9 : decode cX8_inner 9 = .ok (.getfield 18, 3) := by decide +kernel
theorem dX8_inner_12 : decode cX8_inner 12 = .ok (.invokevirtual 194, 3) := by decide +kernel
theorem dX8_inner_15 : decode cX8_inner 15 = .ok (.aload_n 0, 1) := by decide +kernel
theorem dX8_inner_16 : decode cX8_inner 16 = .ok (.getfield 34, 3) := by decide +kernel
theorem dX8_inner_19 : decode cX8_inner 19 = .ok (.iload_n 1, 1) := by decide +kernel
theorem dX8_inner_20 : decode cX8_inner 20 = .ok (.iconst 0, 1) := by decide +kernel
theorem dX8_inner_21 : decode cX8_inner 21 = .ok (.invokevirtual 211, 3) := by decide +kernel
theorem dX8_inner_24 : decode cX8_inner 24 = .ok (.ireturn, 1) := by decide +kernel
theorem dX8_outer_0 : decode cX8_outer 0 = .ok (.aload_n 0, 1) := by decide +kernel
theorem dX8_outer_1 : decode cX8_outer 1 = .ok (.iload_n 1, 1) := by decide +kernel
theorem dX8_outer_2 : decode cX8_outer 2 = .ok (.invokevirtual 214, 3) := by decide +kernel
theorem dX8_outer_5 : decode cX8_outer 5 = .ok (.istore_n 2, 1) := by decide +kernel
theorem dX8_outer_6 : decode cX8_outer 6 = .ok (.iload_n 2, 1) := by decide +kernel
theorem dX8_outer_7 : decode cX8_outer 7 = .ok (.iconst (-1), 1) := by decide +kernel
theorem dX8_outer_8 : decode cX8_outer 8 = .ok (.if_icmp .ne 7, 3) := by decide +kernel
theorem dX8_outer_11 : decode cX8_outer 11 = .ok (.iconst (-1), 1) := by decide +kernel
theorem dX8_outer_12 : decode cX8_outer 12 = .ok (.goto 19, 3) := by decide +kernel
theorem dX8_outer_15 : decode cX8_outer 15 = .ok (.aload_n 0, 1) := by decide +kernel
theorem dX8_outer_16 : decode cX8_outer 16 = .ok (.getfield 34, 3) := by decide +kernel
theorem dX8_outer_19 : decode cX8_outer 19 = .ok (.iload_n 1, 1) := by decide +kernel
theorem dX8_outer_20 : decode cX8_outer 20 = .ok (.aload_n 0, 1) := by decide +kernel
theorem dX8_outer_21 : decode cX8_outer 21 = .ok (.getfield 34, 3) := by decide +kernel
theorem dX8_outer_24 : decode cX8_outer 24 = .ok (.iload_n 2, 1) := by decide +kernel
theorem dX8_outer_25 : decode cX8_outer 25 = .ok (.invokevirtual 217, 3) := by decide +kernel
theorem dX8_outer_28 : decode cX8_outer 28 = .ok (.invokevirtual 211, 3) := by decide +kernel
theorem dX8_outer_31 : decode cX8_outer 31 = .ok (.ireturn, 1) := by decide +kernel
theorem dX8_isSound_0 : decode cX8_isSound 0 = .ok (.aload_n 0, 1) := by decide +kernel
theorem dX8_isSound_1 : decode cX8_isSound 1 = .ok (.getfield 52, 3) := by decide +kernel
theorem dX8_isSound_4 : decode cX8_isSound 4 = .ok (.getfield 106, 3) := by decide +kernel
theorem dX8_isSound_7 : decode cX8_isSound 7 = .ok (.istore_n 1, 1) := by decide +kernel
theorem dX8_isSound_8 : decode cX8_isSound 8 = .ok (.iconst 0, 1) := by decide +kernel
theorem dX8_isSound_9 : decode cX8_isSound 9 = .ok (.istore_n 2, 1) := by decide +kernel
theorem dX8_isSound_10 : decode cX8_isSound 10 = .ok (.iload_n 2, 1) := by decide +kernel
theorem dX8_isSound_11 : decode cX8_isSound 11 = .ok (.bipush 16, 2) := by decide +kernel
theorem dX8_isSound_13 : decode cX8_isSound 13 = .ok (.if_icmp .ge 60, 3) := by decide +kernel
theorem dX8_isSound_16 : decode cX8_isSound 16 = .ok (.iload_n 1, 1) := by decide +kernel
theorem dX8_isSound_17 : decode cX8_isSound 17 = .ok (.ifCond .eq 56, 3) := by decide +kernel
theorem dX8_isSound_20 : decode cX8_isSound 20 = .ok (.iconst 0, 1) := by decide +kernel
theorem dX8_isSound_21 : decode cX8_isSound 21 = .ok (.istore_n 3, 1) := by decide +kernel
theorem dX8_isSound_22 : decode cX8_isSound 22 = .ok (.iload_n 3, 1) := by decide +kernel
theorem dX8_isSound_23 : decode cX8_isSound 23 = .ok (.bipush 16, 2) := by decide +kernel
theorem dX8_isSound_25 : decode cX8_isSound 25 = .ok (.if_icmp .ge 42, 3) := by decide +kernel
theorem dX8_isSound_28 : decode cX8_isSound 28 = .ok (.aload_n 0, 1) := by decide +kernel
theorem dX8_isSound_29 : decode cX8_isSound 29 = .ok (.getfield 52, 3) := by decide +kernel
theorem dX8_isSound_32 : decode cX8_isSound 32 = .ok (.getfield 62, 3) := by decide +kernel
theorem dX8_isSound_35 : decode cX8_isSound 35 = .ok (.iload_n 3, 1) := by decide +kernel
theorem dX8_isSound_36 : decode cX8_isSound 36 = .ok (.invokestatic 94, 3) := by decide +kernel
theorem dX8_isSound_39 : decode cX8_isSound 39 = .ok (.aload_n 0, 1) := by decide +kernel
theorem dX8_isSound_40 : decode cX8_isSound 40 = .ok (.iload_n 3, 1) := by decide +kernel
theorem dX8_isSound_41 : decode cX8_isSound 41 = .ok (.invokevirtual 121, 3) := by decide +kernel
theorem dX8_isSound_44 : decode cX8_isSound 44 = .ok (.iconst (-1), 1) := by decide +kernel
theorem dX8_isSound_45 : decode cX8_isSound 45 = .ok (.ixor, 1) := by decide +kernel
theorem dX8_isSound_46 : decode cX8_isSound 46 = .ok (.iand, 1) := by decide +kernel
theorem dX8_isSound_47 : decode cX8_isSound 47 = .ok (.iload_n 1, 1) := by decide +kernel
theorem dX8_isSound_48 : decode cX8_isSound 48 = .ok (.iand, 1) := by decide +kernel
theorem dX8_isSound_49 : decode cX8_isSound 49 = .ok (.ifCond .ne 12, 3) := by decide +kernel
theorem dX8_isSound_52 : decode cX8_isSound 52 = .ok (.iload_n 1, 1) := by decide +kernel
theorem dX8_isSound_53 : decode cX8_isSound 53 = .ok (.iload_n 3, 1) := by decide +kernel
theorem dX8_isSound_54 : decode cX8_isSound 54 = .ok (.invokestatic 75, 3) := by decide +kernel
theorem dX8_isSound_57 : decode cX8_isSound 57 = .ok (.iconst (-1), 1) := by decide +kernel
theorem dX8_isSound_58 : decode cX8_isSound 58 = .ok (.ixor, 1) := by decide +kernel
theorem dX8_isSound_59 : decode cX8_isSound 59 = .ok (.iand, 1) := by decide +kernel
theorem dX8_isSound_60 : decode cX8_isSound 60 = .ok (.istore_n 1, 1) := by decide +kernel
theorem dX8_isSound_61 : decode cX8_isSound 61 = .ok (.iinc 3 1, 3) := by decide +kernel
theorem dX8_isSound_64 : decode cX8_isSound 64 = .ok (.goto (-42), 3) := by decide +kernel
theorem dX8_isSound_67 : decode cX8_isSound 67 = .ok (.iinc 2 1, 3) := by decide +kernel
theorem dX8_isSound_70 : decode cX8_isSound 70 = .ok (.goto (-60), 3) := by decide +kernel
theorem dX8_isSound_73 : decode cX8_isSound 73 = .ok (.iload_n 1, 1) := by decide +kernel
theorem dX8_isSound_74 : decode cX8_isSound 74 = .ok (.ifCond .ne 7, 3) := by decide +kernel
theorem dX8_isSound_77 : decode cX8_isSound 77 = .ok (.iconst 1, 1) := by decide +kernel
theorem dX8_isSound_78 : decode cX8_isSound 78 = .ok (.goto 4, 3) := by decide +kernel
