theorem dX10_chainOf_29 : decode cX10_chainOf 29 = .ok (.aload_n 0, 1) := by decide +kernel
theorem dX10_chainOf_30 : decode cX10_chainOf 30 = .ok (.getfield 35, 3) := by decide +kernel
theorem dX10_chainOf_33 : decode cX10_chainOf 33 = .ok (.iload_n 3, 1) := by decide +kernel
theorem dX10_chainOf_34 : decode cX10_chainOf 34 = .ok (.iaload, 1) := by decide +kernel
theorem dX10_chainOf_35 : decode cX10_chainOf 35 = .ok (.iload_n 2, 1) := by decide +kernel
theorem dX10_chainOf_36 : decode cX10_chainOf 36 = .ok (.if_icmp .le 13, 3) := by decide +kernel
theorem dX10_chainOf_39 : decode cX10_chainOf 39 = .ok (.aload_n 0, 1) := by decide +kernel
theorem dX10_chainOf_40 : decode cX10_chainOf 40 = .ok (.getfield 38, 3) := by decide +kernel
theorem dX10_chainOf_43 : decode cX10_chainOf 43 = .ok (.iload_n 3, 1) := by decide +kernel
theorem dX10_chainOf_44 : decode cX10_chainOf 44 = .ok (.iaload, 1) := by decide +kernel
theorem dX10_chainOf_45 : decode cX10_chainOf 45 = .ok (.istore_n 3, 1) := by decide +kernel
theorem dX10_chainOf_46 : decode cX10_chainOf 46 = .ok (.goto (-17), 3) := by decide +kernel
theorem dX10_chainOf_49 : decode cX10_chainOf 49 = .ok (.iload_n 3, 1) := by decide +kernel
theorem dX10_chainOf_50 : decode cX10_chainOf 50 = .ok (.ireturn, 1) := by decide +kernel
theorem dX10_chain_0 : decode cX10_chain 0 = .ok (.aload_n 0, 1) := by decide +kernel
theorem dX10_chain_1 : decode cX10_chain 1 = .ok (.iload_n 1, 1) := by decide +kernel
theorem dX10_chain_2 : decode cX10_chain 2 = .ok (.invokevirtual 303, 3) := by decide +kernel
theorem dX10_chain_5 : decode cX10_chain 5 = .ok (.ifCond .eq 7, 3) := by decide +kernel
theorem dX10_chain_8 : decode cX10_chain 8 = .ok (.iconst 0, 1) := by decide +kernel
theorem dX10_chain_9 : decode cX10_chain 9 = .ok (.goto 9, 3) := by decide +kernel
theorem dX10_chain_12 : decode cX10_chain 12 = .ok (.aload_n 0, 1) := by decide +kernel
theorem dX10_chain_13 : decode cX10_chain 13 = .ok (.iload_n 1, 1) := by decide +kernel
theorem dX10_chain_14 : decode cX10_chain 14 = .ok (.iload_n 2, 1) := by decide +kernel
theorem dX10_chain_15 : decode cX10_chain 15 = .ok (.invokevirtual 357, 3) := by decide +kernel
theorem dX10_chain_18 : decode cX10_chain 18 = .ok (.ireturn, 1) := by decide +kernel
theorem dX10_levelOf_0 : decode cX10_levelOf 0 = .ok (.iconst 0, 1) := by decide +kernel
theorem dX10_levelOf_1 : decode cX10_levelOf 1 = .ok (.istore_n 2, 1) := by decide +kernel
theorem dX10_levelOf_2 : decode cX10_levelOf 2 = .ok (.iconst 0, 1) := by decide +kernel
theorem dX10_levelOf_3 : decode cX10_levelOf 3 = .ok (.istore_n 3, 1) := by decide +kernel
theorem dX10_levelOf_4 : decode cX10_levelOf 4 = .ok (.iload_n 3, 1) := by decide +kernel
theorem dX10_levelOf_5 : decode cX10_levelOf 5 = .ok (.aload_n 0, 1) := by decide +kernel
theorem dX10_levelOf_6 : decode cX10_levelOf 6 = .ok (.invokevirtual 80, 3) := by decide +kernel
theorem dX10_levelOf_9 : decode cX10_levelOf 9 = .ok (.if_icmp .ge 33, 3) := by decide +kernel
theorem dX10_levelOf_12 : decode cX10_levelOf 12 = .ok (.iload_n 2, 1) := by decide +kernel
theorem dX10_levelOf_13 : decode cX10_levelOf 13 = .ok (.iload_n 1, 1) := by decide +kernel
theorem dX10_levelOf_14 : decode cX10_levelOf 14 = .ok (.ifCond .lt 19, 3) := by decide +kernel
theorem dX10_levelOf_17 : decode cX10_levelOf 17 = .ok (.aload_n 0, 1) := by decide +kernel
theorem dX10_levelOf_18 : decode cX10_levelOf 18 = .ok (.getfield 35, 3) := by decide +kernel
theorem dX10_levelOf_21 : decode cX10_levelOf 21 = .ok (.iload_n 3, 1) := by decide +kernel
theorem dX10_levelOf_22 : decode cX10_levelOf 22 = .ok (.iaload, 1) := by decide +kernel
theorem dX10_levelOf_23 : decode cX10_levelOf 23 = .ok (.iload_n 1, 1) := by decide +kernel
theorem dX10_levelOf_24 : decode cX10_levelOf 24 = .ok (.if_icmp .ne 9, 3) := by decide +kernel
theorem dX10_levelOf_27 : decode cX10_levelOf 27 = .ok (.iconst 1, 1) := by decide +kernel
theorem dX10_levelOf_28 : decode cX10_levelOf 28 = .ok (.iload_n 3, 1) := by decide +kernel
theorem dX10_levelOf_29 : decode cX10_levelOf 29 = .ok (.ishl, 1) := by decide +kernel
theorem dX10_levelOf_30 : decode cX10_levelOf 30 = .ok (.goto 4, 3) := by decide +kernel
theorem dX10_levelOf_33 : decode cX10_levelOf 33 = .ok (.iconst 0, 1) := by decide +kernel
theorem dX10_levelOf_34 : decode cX10_levelOf 34 = .ok (.ior, 1) := by decide +kernel
theorem dX10_levelOf_35 : decode cX10_levelOf 35 = .ok (.istore_n 2, 1) := by decide +kernel
theorem dX10_levelOf_36 : decode cX10_levelOf 36 = .ok (.iinc 3 1, 3) := by decide +kernel
theorem dX10_levelOf_39 : decode cX10_levelOf 39 = .ok (.goto (-35), 3) := by decide +kernel
theorem dX10_levelOf_42 : decode cX10_levelOf 42 = .ok (.iload_n 2, 1) := by decide +kernel
theorem dX10_levelOf_43 : decode cX10_levelOf 43 = .ok (.ireturn, 1) := by decide +kernel
theorem dX10_level_0 : decode cX10_level 0 = .ok (.aload_n 0, 1) := by decide +kernel
theorem dX10_level_1 : decode cX10_level 1 = .ok (.iconst 0, 1) := by decide +kernel
theorem dX10_level_2 : decode cX10_level 2 = .ok (.putfield 1, 3) := by decide +kernel
theorem dX10_level_5 : decode cX10_level 5 = .ok (.aload_n 0, 1) := by decide +kernel
theorem dX10_level_6 : decode cX10_level 6 = .ok (.invokevirtual 126, 3) := by decide +kernel
theorem dX10_level_9 : decode cX10_level 9 = .ok (.aload_n 0, 1) := by decide +kernel
theorem dX10_level_10 : decode cX10_level 10 = .ok (.iload_n 1, 1) := by decide +kernel
theorem dX10_level_11 : decode cX10_level 11 = .ok (.invokevirtual 360, 3) := by decide +kernel
theorem dX10_level_14 : decode cX10_level 14 = .ok (.ireturn, 1) := by decide +kernel
theorem dX10_worst_0 : decode cX10_worst 0 = .ok (.aload_n 0, 1) := by decide +kernel
theorem dX10_worst_1 : decode cX10_worst 1 = .ok (.iconst 0, 1) := by decide +kernel
theorem dX10_worst_2 : decode cX10_worst 2 = .ok (.putfield 1, 3) := by decide +kernel
theorem dX10_worst_5 : decode cX10_worst 5 = .ok (.aload_n 0, 1) := by decide +kernel
theorem dX10_worst_6 : decode cX10_worst 6 = .ok (.invokevirtual 126, 3) := by decide +kernel
theorem dX10_worst_9 : decode cX10_worst 9 = .ok (.aload_n 0, 1) := by decide +kernel
theorem dX10_worst_10 : decode cX10_worst 10 = .ok (.iload_n 1, 1) := by decide +kernel
theorem dX10_worst_11 : decode cX10_worst 11 = .ok (.iconst 0, 1) := by decide +kernel
theorem dX10_worst_12 : decode cX10_worst 12 = .ok (.iconst 1, 1) := by decide +kernel
theorem dX10_worst_13 : decode cX10_worst 13 = .ok (.invokestatic 84, 3) := by decide +kernel
theorem dX10_worst_16 : decode cX10_worst 16 = .ok (.ifCond .ne 7, 3) := by decide +kernel
theorem dX10_worst_19 : decode cX10_worst 19 = .ok (.iconst 1, 1) := by decide +kernel
theorem dX10_worst_20 : decode cX10_worst 20 = .ok (.goto 4, 3) := by decide +kernel
theorem dX10_worst_23 : decode cX10_worst 23 = .ok (.iconst 0, 1) := by decide +kernel
theorem dX10_worst_24 : decode cX10_worst 24 = .ok (.iconst 1, 1) := by decide +kernel
theorem dX10_worst_25 : decode cX10_worst 25 = .ok (.invokevirtual 157, 3) := by decide +kernel
theorem dX10_worst_28 : decode cX10_worst 28 = .ok (.ifCond .eq 5, 3) := by decide +kernel
theorem dX10_worst_31 : decode cX10_worst 31 = .ok (.iconst 0, 1) := by decide +kernel
theorem dX10_worst_32 : decode cX10_worst 32 = .ok (.ireturn, 1) := by decide +kernel
theorem dX10_worst_33 : decode cX10_worst 33 = .ok (.iconst (-1), 1) := by decide +kernel
theorem dX10_worst_34 : decode cX10_worst 34 = .ok (.istore_n 2, 1) := by decide +kernel
theorem dX10_worst_35 : decode cX10_worst 35 = .ok (.iconst 0, 1) := by decide +kernel
theorem dX10_worst_36 : decode cX10_worst 36 = .ok (.istore_n 3, 1) := by decide +kernel
theorem dX10_worst_37 : decode cX10_worst 37 = .ok (.iconst 0, 1) := by decide +kernel
theorem dX10_worst_38 : decode cX10_worst 38 = .ok (.istore 4, 2) := by decide +kernel
theorem dX10_worst_40 : decode cX10_worst 40 = .ok (.iload 4, 2) := by decide +kernel
theorem dX10_worst_42 : decode cX10_worst 42 = .ok (.aload_n 0, 1) := by decide +kernel
theorem dX10_worst_43 : decode cX10_worst 43 = .ok (.invokevirtual 88, 3) := by decide +kernel
theorem dX10_worst_46 : decode cX10_worst 46 = .ok (.if_icmp .ge 56, 3) := by decide +kernel
theorem dX10_worst_49 : decode cX10_worst 49 = .ok (.aload_n 0, 1) := by decide +kernel
theorem dX10_worst_50 : decode cX10_worst 50 = .ok (.iload 4, 2) := by decide +kernel
theorem dX10_worst_52 : decode cX10_worst 52 = .ok (.invokevirtual 91, 3) := by decide +kernel
theorem dX10_worst_55 : decode cX10_worst 55 = .ok (.ifCond .eq 23, 3) := by decide +kernel
theorem dX10_worst_58 : decode cX10_worst 58 = .ok (.aload_n 0, 1) := by decide +kernel
theorem dX10_worst_59 : decode cX10_worst 59 = .ok (.getfield 120, 3) := by decide +kernel
theorem dX10_worst_62 : decode cX10_worst 62 = .ok (.aload_n 0, 1) := by decide +kernel
theorem dX10_worst_63 : decode cX10_worst 63 = .ok (.iconst 0, 1) := by decide +kernel
theorem dX10_worst_64 : decode cX10_worst 64 = .ok (.iload 4, 2) := by decide +kernel
theorem dX10_worst_66 : decode cX10_worst 66 = .ok (.invokevirtual 116, 3) := by decide +kernel
theorem dX10_worst_69 : decode cX10_worst 69 = .ok (.iconst (-1), 1) := by decide +kernel
theorem dX10_worst_70 : decode cX10_worst 70 = .ok (.ixor, 1) := by decide +kernel
theorem dX10_worst_71 : decode cX10_worst 71 = .ok (.iand, 1) := by decide +kernel
theorem dX10_worst_72 : decode cX10_worst 72 = .ok (.invokestatic 123, 3) := by decide +kernel
theorem dX10_worst_75 : decode cX10_worst 75 = .ok (.goto 4, 3) := by decide +kernel
theorem dX10_worst_78 : decode cX10_worst 78 = .ok (.iconst 0, 1) := by decide +kernel
theorem dX10_worst_79 : decode cX10_worst 79 = .ok (.istore 5, 2) := by decide +kernel
theorem dX10_worst_81 : decode cX10_worst 81 = .ok (.iload 5, 2) := by decide +kernel
theorem dX10_worst_83 : decode cX10_worst 83 = .ok (.iload_n 3, 1) := by decide +kernel
theorem dX10_worst_84 : decode cX10_worst 84 = .ok (.if_icmp .gt 6, 3) := by decide +kernel
theorem dX10_worst_87 : decode cX10_worst 87 = .ok (.goto 9, 3) := by decide +kernel
theorem dX10_worst_90 : decode cX10_worst 90 = .ok (.iload 4, 2) := by decide +kernel
theorem dX10_worst_92 : decode cX10_worst 92 = .ok (.istore_n 2, 1) := by decide +kernel
theorem dX10_worst_93 : decode cX10_worst 93 = .ok (.iload 5, 2) := by decide +kernel
theorem dX10_worst_95 : decode cX10_worst 95 = .ok (.istore_n 3, 1) := by decide +kernel
theorem dX10_worst_96 : decode cX10_worst 96 = .ok (.iinc 4 1, 3) := by decide +kernel
theorem dX10_worst_99 : decode cX10_worst 99 = .ok (.goto (-59), 3) := by decide +kernel
theorem dX10_worst_102 : decode cX10_worst 102 = .ok (.iload_n 1, 1) := by decide +kernel
theorem dX10_worst_103 : decode cX10_worst 103 = .ok (.ifCond .ne 7, 3) := by decide +kernel
theorem dX10_worst_106 : decode cX10_worst 106 = .ok (.iload_n 2, 1) := by decide +kernel
theorem dX10_worst_107 : decode cX10_worst 107 = .ok (.goto 4, 3) := by decide +kernel
theorem dX10_worst_110 : decode cX10_worst 110 = .ok (.iload_n 3, 1) := by decide +kernel
theorem dX10_worst_111 : decode cX10_worst 111 = .ok (.ireturn, 1) := by decide +kernel
theorem dX10_tries_0 : decode cX10_tries 0 = .ok (.aload_n 0, 1) := by decide +kernel
theorem dX10_tries_1 : decode cX10_tries 1 = .ok (.invokevirtual 151, 3) := by decide +kernel
theorem dX10_tries_4 : decode cX10_tries 4 = .ok (.aload_n 0, 1) := by decide +kernel
theorem dX10_tries_5 : decode cX10_tries 5 = .ok (.iload_n 1, 1) := by decide +kernel
theorem dX10_tries_6 : decode cX10_tries 6 = .ok (.putfield 26, 3) := by decide +kernel
theorem dX10_tries_9 : decode cX10_tries 9 = .ok (.aload_n 0, 1) := by decide +kernel
theorem dX10_tries_10 : decode cX10_tries 10 = .ok (.iload_n 2, 1) := by decide +kernel
theorem dX10_tries_11 : decode cX10_tries 11 = .ok (.putfield 106, 3) := by decide +kernel
theorem dX10_tries_14 : decode cX10_tries 14 = .ok (.aload_n 0, 1) := by decide +kernel
theorem dX10_tries_15 : decode cX10_tries 15 = .ok (.invokevirtual 363, 3) := by decide +kernel
theorem dX10_tries_18 : decode cX10_tries 18 = .ok (.return_, 1) := by decide +kernel
theorem dX10_differs_0 : decode cX10_differs 0 = .ok (.aload_n 0, 1) := by decide +kernel
theorem dX10_differs_1 : decode cX10_differs 1 = .ok (.invokevirtual 126, 3) := by decide +kernel
theorem dX10_differs_4 : decode cX10_differs 4 = .ok (.aload_n 0, 1) := by decide +kernel
theorem dX10_differs_5 : decode cX10_differs 5 = .ok (.iconst (-1), 1) := by decide +kernel
theorem dX10_differs_6 : decode cX10_differs 6 = .ok (.putfield 26, 3) := by decide +kernel
theorem dX10_differs_9 : decode cX10_differs 9 = .ok (.aload_n 0, 1) := by decide +kernel
theorem dX10_differs_10 : decode cX10_differs 10 = .ok (.iconst (-1), 1) := by decide +kernel
theorem dX10_differs_11 : decode cX10_differs 11 = .ok (.putfield 29, 3) := by decide +kernel
theorem dX10_differs_14 : decode cX10_differs 14 = .ok (.aload_n 0, 1) := by decide +kernel
theorem dX10_differs_15 : decode cX10_differs 15 = .ok (.aload_n 0, 1) := by decide +kernel
theorem dX10_differs_16 : decode cX10_differs 16 = .ok (.getfield 120, 3) := by decide +kernel
theorem dX10_differs_19 : decode cX10_differs 19 = .ok (.aload_n 0, 1) := by decide +kernel
theorem dX10_differs_20 : decode cX10_differs 20 = .ok (.getfield 129, 3) := by decide +kernel
theorem dX10_differs_23 : decode cX10_differs 23 = .ok (.iconst (-1), 1) := by decide +kernel
theorem dX10_differs_24 : decode cX10_differs 24 = .ok (.ixor, 1) := by decide +kernel
theorem dX10_differs_25 : decode cX10_differs 25 = .ok (.iand, 1) := by decide +kernel
theorem dX10_differs_26 : decode cX10_differs 26 = .ok (.putfield 366, 3) := by decide +kernel
theorem dX10_differs_29 : decode cX10_differs 29 = .ok (.aload_n 0, 1) := by decide +kernel
theorem dX10_differs_30 : decode cX10_differs 30 = .ok (.aload_n 0, 1) := by decide +kernel
theorem dX10_differs_31 : decode cX10_differs 31 = .ok (.getfield 129, 3) := by decide +kernel
theorem dX10_differs_34 : decode cX10_differs 34 = .ok (.aload_n 0, 1) := by decide +kernel
theorem dX10_differs_35 : decode cX10_differs 35 = .ok (.getfield 120, 3) := by decide +kernel
theorem dX10_differs_38 : decode cX10_differs 38 = .ok (.iconst (-1), 1) := by decide +kernel
theorem dX10_differs_39 : decode cX10_differs 39 = .ok (.ixor, 1) := by decide +kernel
theorem dX10_differs_40 : decode cX10_differs 40 = .ok (.iand, 1) := by decide +kernel
theorem dX10_differs_41 : decode cX10_differs 41 = .ok (.putfield 369, 3) := by decide +kernel
theorem dX10_differs_44 : decode cX10_differs 44 = .ok (.aload_n 0, 1) := by decide +kernel
theorem dX10_differs_45 : decode cX10_differs 45 = .ok (.iconst 0, 1) := by decide +kernel
theorem dX10_differs_46 : decode cX10_differs 46 = .ok (.putfield 372, 3) := by decide +kernel
theorem dX10_differs_49 : decode cX10_differs 49 = .ok (.aload_n 0, 1) := by decide +kernel
theorem dX10_differs_50 : decode cX10_differs 50 = .ok (.iconst 0, 1) := by decide +kernel
theorem dX10_differs_51 : decode cX10_differs 51 = .ok (.putfield 375, 3) := by decide +kernel
theorem dX10_differs_54 : decode cX10_differs 54 = .ok (.iconst 0, 1) := by decide +kernel
theorem dX10_differs_55 : decode cX10_differs 55 = .ok (.istore_n 1, 1) := by decide +kernel
theorem dX10_differs_56 : decode cX10_differs 56 = .ok (.iload_n 1, 1) := by decide +kernel
theorem dX10_differs_57 : decode cX10_differs 57 = .ok (.aload_n 0, 1) := by decide +kernel
theorem dX10_differs_58 : decode cX10_differs 58 = .ok (.invokevirtual 80, 3) := by decide +kernel
theorem dX10_differs_61 : decode cX10_differs 61 = .ok (.if_icmp .ge 81, 3) := by decide +kernel
theorem dX10_differs_64 : decode cX10_differs 64 = .ok (.aload_n 0, 1) := by decide +kernel
theorem dX10_differs_65 : decode cX10_differs 65 = .ok (.getfield 120, 3) := by decide +kernel
theorem dX10_differs_68 : decode cX10_differs 68 = .ok (.aload_n 0, 1) := by decide +kernel
theorem dX10_differs_69 : decode cX10_differs 69 = .ok (.getfield 129, 3) := by decide +kernel
theorem dX10_differs_72 : decode cX10_differs 72 = .ok (.iand, 1) := by decide +kernel
theorem dX10_differs_73 : decode cX10_differs 73 = .ok (.iload_n 1, 1) := by decide +kernel
theorem dX10_differs_74 : decode cX10_differs 74 = .ok (.invokestatic 99, 3) := by decide +kernel
theorem dX10_differs_77 : decode cX10_differs 77 = .ok (.ifCond .ne 6, 3) := by decide +kernel
theorem dX10_differs_80 : decode cX10_differs 80 = .ok (.goto 56, 3) := by decide +kernel
theorem dX10_differs_83 : decode cX10_differs 83 = .ok (.aload_n 0, 1) := by decide +kernel
theorem dX10_differs_84 : decode cX10_differs 84 = .ok (.dup, 1) := by decide +kernel
theorem dX10_differs_85 : decode cX10_differs 85 = .ok (.getfield 372, 3) := by decide +kernel
theorem dX10_differs_88 : decode cX10_differs 88 = .ok (.aload_n 0, 1) := by decide +kernel
theorem dX10_differs_89 : decode cX10_differs 89 = .ok (.getfield 38, 3) := by decide +kernel
theorem dX10_differs_92 : decode cX10_differs 92 = .ok (.iload_n 1, 1) := by decide +kernel
theorem dX10_differs_93 : decode cX10_differs 93 = .ok (.iaload, 1) := by decide +kernel
theorem dX10_differs_94 : decode cX10_differs 94 = .ok (.aload_n 0, 1) := by decide +kernel
theorem dX10_differs_95 : decode cX10_differs 95 = .ok (.getfield 44, 3) := by decide +kernel
theorem dX10_differs_98 : decode cX10_differs 98 = .ok (.iload_n 1, 1) := by decide +kernel
theorem dX10_differs_99 : decode cX10_differs 99 = .ok (.iaload, 1) := by decide +kernel
theorem dX10_differs_100 : decode cX10_differs 100 = .ok (.if_icmp .ne 7, 3) := by decide +kernel
theorem dX10_differs_103 : decode cX10_differs 103 = .ok (.iconst 0, 1) := by decide +kernel
theorem dX10_differs_104 : decode cX10_differs 104 = .ok (.goto 6, 3) := by decide +kernel
theorem dX10_differs_107 : decode cX10_differs 107 = .ok (.iconst 1, 1) := by decide +kernel
theorem dX10_differs_108 : decode cX10_differs 108 = .ok (.iload_n 1, 1) := by decide +kernel
theorem dX10_differs_109 : decode cX10_differs 109 = .ok (.ishl, 1) := by decide +kernel
theorem dX10_differs_110 : decode cX10_differs 110 = .ok (.ior, 1) := by decide +kernel
theorem dX10_differs_111 : decode cX10_differs 111 = .ok (.putfield 372, 3) := by decide +kernel
theorem dX10_differs_114 : decode cX10_differs 114 = .ok (.aload_n 0, 1) := by decide +kernel
theorem dX10_differs_115 : decode cX10_differs 115 = .ok (.dup, 1) := by decide +kernel
theorem dX10_differs_116 : decode cX10_differs 116 = .ok (.getfield 375, 3) := by decide +kernel
theorem dX10_differs_119 : decode cX10_differs 119 = .ok (.aload_n 0, 1) := by decide +kernel
theorem dX10_differs_120 : decode cX10_differs 120 = .ok (.getfield 41, 3) := by decide +kernel
theorem dX10_differs_123 : decode cX10_differs 123 = .ok (.iload_n 1, 1) := by decide +kernel
theorem dX10_differs_124 : decode cX10_differs 124 = .ok (.iaload, 1) := by decide +kernel
theorem dX10_differs_125 : decode cX10_differs 125 = .ok (.aload_n 0, 1) := by decide +kernel
theorem dX10_differs_126 : decode cX10_differs 126 = .ok (.getfield 35, 3) := by decide +kernel
theorem dX10_differs_129 : decode cX10_differs 129 = .ok (.iload_n 1, 1) := by decide +kernel
theorem dX10_differs_130 : decode cX10_differs 130 = .ok (.iaload, 1) := by decide +kernel
theorem dX10_differs_131 : decode cX10_differs 131 = .ok (.isub, 1) := by decide +kernel
theorem dX10_differs_132 : decode cX10_differs 132 = .ok (.iadd, 1) := by decide +kernel
theorem dX10_differs_133 : decode cX10_differs 133 = .ok (.putfield 375, 3) := by decide +kernel
theorem dX10_differs_136 : decode cX10_differs 136 = .ok (.iinc 1 1, 3) := by decide +kernel
theorem dX10_differs_139 : decode cX10_differs 139 = .ok (.goto (-83), 3) := by decide +kernel
theorem dX10_differs_142 : decode cX10_differs 142 = .ok (.return_, 1) := by decide +kernel
theorem dX10_triesWithout_0 : decode cX10_triesWithout 0 = .ok (.aload_n 0, 1) := by decide +kernel
theorem dX10_triesWithout_1 : decode cX10_triesWithout 1 = .ok (.invokevirtual 151, 3) := by decide +kernel
theorem dX10_triesWithout_4 : decode cX10_triesWithout 4 = .ok (.aload_n 0, 1) := by decide +kernel
theorem dX10_triesWithout_5 : decode cX10_triesWithout 5 = .ok (.iload_n 1, 1) := by decide +kernel
theorem dX10_triesWithout_6 : decode cX10_triesWithout 6 = .ok (.putfield 29, 3) := by decide +kernel
theorem dX10_triesWithout_9 : decode cX10_triesWithout 9 = .ok (.aload_n 0, 1) := by decide +kernel
theorem dX10_triesWithout_10 : decode cX10_triesWithout 10 = .ok (.invokevirtual 363, 3) := by decide +kernel
theorem dX10_triesWithout_13 : decode cX10_triesWithout 13 = .ok (.return_, 1) := by decide +kernel
theorem dX10_fall_0 : decode cX10_fall 0 = .ok (.aload_n 0, 1) := by decide +kernel
theorem dX10_fall_1 : decode cX10_fall 1 = .ok (.iconst 0, 1) := by decide +kernel
theorem dX10_fall_2 : decode cX10_fall 2 = .ok (.putfield 1, 3) := by decide +kernel
theorem dX10_fall_5 : decode cX10_fall 5 = .ok (.aload_n 0, 1) := by decide +kernel
theorem dX10_fall_6 : decode cX10_fall 6 = .ok (.aload_n 0, 1) := by decide +kernel
theorem dX10_fall_7 : decode cX10_fall 7 = .ok (.iload_n 1, 1) := by decide +kernel
theorem dX10_fall_8 : decode cX10_fall 8 = .ok (.invokevirtual 174, 3) := by decide +kernel
theorem dX10_fall_11 : decode cX10_fall 11 = .ok (.ifCond .ne 7, 3) := by decide +kernel
theorem dX10_fall_14 : decode cX10_fall 14 = .ok (.iconst 1, 1) := by decide +kernel
theorem dX10_fall_15 : decode cX10_fall 15 = .ok (.goto 4, 3) := by decide +kernel
theorem dX10_fall_18 : decode cX10_fall 18 = .ok (.iconst 0, 1) := by decide +kernel
theorem dX10_fall_19 : decode cX10_fall 19 = .ok (.iconst 1, 1) := by decide +kernel
theorem dX10_fall_20 : decode cX10_fall 20 = .ok (.invokevirtual 157, 3) := by decide +kernel
theorem dX10_fall_23 : decode cX10_fall 23 = .ok (.ifCond .ne 46, 3) := by decide +kernel
theorem dX10_fall_26 : decode cX10_fall 26 = .ok (.aload_n 0, 1) := by decide +kernel
theorem dX10_fall_27 : decode cX10_fall 27 = .ok (.iload_n 2, 1) := by decide +kernel
theorem dX10_fall_28 : decode cX10_fall 28 = .ok (.iconst 0, 1) := by decide +kernel
theorem dX10_fall_29 : decode cX10_fall 29 = .ok (.iconst 2, 1) := by decide +kernel
theorem dX10_fall_30 : decode cX10_fall 30 = .ok (.invokestatic 84, 3) := by decide +kernel
theorem dX10_fall_33 : decode cX10_fall 33 = .ok (.ifCond .ne 7, 3) := by decide +kernel
theorem dX10_fall_36 : decode cX10_fall 36 = .ok (.iconst 1, 1) := by decide +kernel
theorem dX10_fall_37 : decode cX10_fall 37 = .ok (.goto 4, 3) := by decide +kernel
theorem dX10_fall_40 : decode cX10_fall 40 = .ok (.iconst 0, 1) := by decide +kernel
theorem dX10_fall_41 : decode cX10_fall 41 = .ok (.iconst 2, 1) := by decide +kernel
theorem dX10_fall_42 : decode cX10_fall 42 = .ok (.invokevirtual 157, 3) := by decide +kernel
theorem dX10_fall_45 : decode cX10_fall 45 = .ok (.ifCond .ne 24, 3) := by decide +kernel
theorem dX10_fall_48 : decode cX10_fall 48 = .ok (.aload_n 0, 1) := by decide +kernel
theorem dX10_fall_49 : decode cX10_fall 49 = .ok (.aload_n 0, 1) := by decide +kernel
theorem dX10_fall_50 : decode cX10_fall 50 = .ok (.iload_n 1, 1) := by decide +kernel
theorem dX10_fall_51 : decode cX10_fall 51 = .ok (.invokevirtual 91, 3) := by decide +kernel
theorem dX10_fall_54 : decode cX10_fall 54 = .ok (.ifCond .ne 7, 3) := by decide +kernel
theorem dX10_fall_57 : decode cX10_fall 57 = .ok (.iconst 1, 1) := by decide +kernel
theorem dX10_fall_58 : decode cX10_fall 58 = .ok (.goto 4, 3) := by decide +kernel
theorem dX10_fall_61 : decode cX10_fall 61 = .ok (.iconst 0, 1) := by decide +kernel
theorem dX10_fall_62 : decode cX10_fall 62 = .ok (.iconst 3, 1) := by decide +kernel
theorem dX10_fall_63 : decode cX10_fall 63 = .ok (.invokevirtual 157, 3) := by decide +kernel
theorem dX10_fall_66 : decode cX10_fall 66 = .ok (.ifCond .eq 5, 3) := by decide +kernel
theorem dX10_fall_69 : decode cX10_fall 69 = .ok (.iconst 0, 1) := by decide +kernel
theorem dX10_fall_70 : decode cX10_fall 70 = .ok (.ireturn, 1) := by decide +kernel
theorem dX10_fall_71 : decode cX10_fall 71 = .ok (.aload_n 0, 1) := by decide +kernel
theorem dX10_fall_72 : decode cX10_fall 72 = .ok (.iload_n 1, 1) := by decide +kernel
theorem dX10_fall_73 : decode cX10_fall 73 = .ok (.invokevirtual 378, 3) := by decide +kernel
theorem dX10_fall_76 : decode cX10_fall 76 = .ok (.iload_n 2, 1) := by decide +kernel
theorem dX10_fall_77 : decode cX10_fall 77 = .ok (.ifCond .ne 10, 3) := by decide +kernel
theorem dX10_fall_80 : decode cX10_fall 80 = .ok (.aload_n 0, 1) := by decide +kernel
theorem dX10_fall_81 : decode cX10_fall 81 = .ok (.getfield 369, 3) := by decide +kernel
theorem dX10_fall_84 : decode cX10_fall 84 = .ok (.goto 19, 3) := by decide +kernel
theorem dX10_fall_87 : decode cX10_fall 87 = .ok (.iload_n 2, 1) := by decide +kernel
theorem dX10_fall_88 : decode cX10_fall 88 = .ok (.iconst 1, 1) := by decide +kernel
theorem dX10_fall_89 : decode cX10_fall 89 = .ok (.if_icmp .ne 10, 3) := by decide +kernel
theorem dX10_fall_92 : decode cX10_fall 92 = .ok (.aload_n 0, 1) := by decide +kernel
theorem dX10_fall_93 : decode cX10_fall 93 = .ok (.getfield 372, 3) := by decide +kernel
theorem dX10_fall_96 : decode cX10_fall 96 = .ok (.goto 7, 3) := by decide +kernel
theorem dX10_fall_99 : decode cX10_fall 99 = .ok (.aload_n 0, 1) := by decide +kernel
theorem dX10_fall_100 : decode cX10_fall 100 = .ok (.getfield 375, 3) := by decide +kernel
theorem dX10_fall_103 : decode cX10_fall 103 = .ok (.ireturn, 1) := by decide +kernel
theorem dX10_spareOnes_0 : decode cX10_spareOnes 0 = .ok (.iconst 0, 1) := by decide +kernel
theorem dX10_spareOnes_1 : decode cX10_spareOnes 1 = .ok (.istore_n 1, 1) := by decide +kernel
theorem dX10_spareOnes_2 : decode cX10_spareOnes 2 = .ok (.iconst 0, 1) := by decide +kernel
theorem dX10_spareOnes_3 : decode cX10_spareOnes 3 = .ok (.istore_n 2, 1) := by decide +kernel
theorem dX10_spareOnes_4 : decode cX10_spareOnes 4 = .ok (.iload_n 2, 1) := by decide +kernel
theorem dX10_spareOnes_5 : decode cX10_spareOnes 5 = .ok (.aload_n 0, 1) := by decide +kernel
theorem dX10_spareOnes_6 : decode cX10_spareOnes 6 = .ok (.invokevirtual 88, 3) := by decide +kernel
theorem dX10_spareOnes_9 : decode cX10_spareOnes 9 = .ok (.if_icmp .ge 47, 3) := by decide +kernel
theorem dX10_spareOnes_12 : decode cX10_spareOnes 12 = .ok (.aload_n 0, 1) := by decide +kernel
theorem dX10_spareOnes_13 : decode cX10_spareOnes 13 = .ok (.iload_n 2, 1) := by decide +kernel
theorem dX10_spareOnes_14 : decode cX10_spareOnes 14 = .ok (.invokevirtual 91, 3) := by decide +kernel
theorem dX10_spareOnes_17 : decode cX10_spareOnes 17 = .ok (.ifCond .ne 6, 3) := by decide +kernel
theorem dX10_spareOnes_20 : decode cX10_spareOnes 20 = .ok (.goto 30, 3) := by decide +kernel
theorem dX10_spareOnes_23 : decode cX10_spareOnes 23 = .ok (.aload_n 0, 1) := by decide +kernel
theorem dX10_spareOnes_24 : decode cX10_spareOnes 24 = .ok (.iload_n 2, 1) := by decide +kernel
theorem dX10_spareOnes_25 : decode cX10_spareOnes 25 = .ok (.invokevirtual 378, 3) := by decide +kernel
theorem dX10_spareOnes_28 : decode cX10_spareOnes 28 = .ok (.iload_n 1, 1) := by decide +kernel
theorem dX10_spareOnes_29 : decode cX10_spareOnes 29 = .ok (.aload_n 0, 1) := by decide +kernel
theorem dX10_spareOnes_30 : decode cX10_spareOnes 30 = .ok (.getfield 369, 3) := by decide +kernel
theorem dX10_spareOnes_33 : decode cX10_spareOnes 33 = .ok (.ifCond .ne 14, 3) := by decide +kernel
theorem dX10_spareOnes_36 : decode cX10_spareOnes 36 = .ok (.aload_n 0, 1) := by decide +kernel
theorem dX10_spareOnes_37 : decode cX10_spareOnes 37 = .ok (.getfield 372, 3) := by decide +kernel
theorem dX10_spareOnes_40 : decode cX10_spareOnes 40 = .ok (.ifCond .ne 7, 3) := by decide +kernel
theorem dX10_spareOnes_43 : decode cX10_spareOnes 43 = .ok (.iconst 1, 1) := by decide +kernel
theorem dX10_spareOnes_44 : decode cX10_spareOnes 44 = .ok (.goto 4, 3) := by decide +kernel
theorem dX10_spareOnes_47 : decode cX10_spareOnes 47 = .ok (.iconst 0, 1) := by decide +kernel
theorem dX10_spareOnes_48 : decode cX10_spareOnes 48 = .ok (.iadd, 1) := by decide +kernel
theorem dX10_spareOnes_49 : decode cX10_spareOnes 49 = .ok (.istore_n 1, 1) := by decide +kernel
theorem dX10_spareOnes_50 : decode cX10_spareOnes 50 = .ok (.iinc 2 1, 3) := by decide +kernel
theorem dX10_spareOnes_53 : decode cX10_spareOnes 53 = .ok (.goto (-49), 3) := by decide +kernel
theorem dX10_spareOnes_56 : decode cX10_spareOnes 56 = .ok (.iload_n 1, 1) := by decide +kernel
theorem dX10_spareOnes_57 : decode cX10_spareOnes 57 = .ok (.ireturn, 1) := by decide +kernel
theorem dX10_would_0 : decode cX10_would 0 = .ok (.aload_n 0, 1) := by decide +kernel
theorem dX10_would_1 : decode cX10_would 1 = .ok (.iload_n 1, 1) := by decide +kernel
theorem dX10_would_2 : decode cX10_would 2 = .ok (.invokevirtual 303, 3) := by decide +kernel
theorem dX10_would_5 : decode cX10_would 5 = .ok (.ifCond .ne 33, 3) := by decide +kernel
theorem dX10_would_8 : decode cX10_would 8 = .ok (.aload_n 0, 1) := by decide +kernel
theorem dX10_would_9 : decode cX10_would 9 = .ok (.iload_n 2, 1) := by decide +kernel
theorem dX10_would_10 : decode cX10_would 10 = .ok (.invokevirtual 303, 3) := by decide +kernel
theorem dX10_would_13 : decode cX10_would 13 = .ok (.ifCond .ne 25, 3) := by decide +kernel
theorem dX10_would_16 : decode cX10_would 16 = .ok (.aload_n 0, 1) := by decide +kernel
theorem dX10_would_17 : decode cX10_would 17 = .ok (.iload_n 3, 1) := by decide +kernel
theorem dX10_would_18 : decode cX10_would 18 = .ok (.iconst 0, 1) := by decide +kernel
theorem dX10_would_19 : decode cX10_would 19 = .ok (.iconst 2, 1) := by decide +kernel
theorem dX10_would_20 : decode cX10_would 20 = .ok (.invokestatic 84, 3) := by decide +kernel
theorem dX10_would_23 : decode cX10_would 23 = .ok (.ifCond .ne 7, 3) := by decide +kernel
theorem dX10_would_26 : decode cX10_would 26 = .ok (.iconst 1, 1) := by decide +kernel
theorem dX10_would_27 : decode cX10_would 27 = .ok (.goto 4, 3) := by decide +kernel
theorem dX10_would_30 : decode cX10_would 30 = .ok (.iconst 0, 1) := by decide +kernel
theorem dX10_would_31 : decode cX10_would 31 = .ok (.iconst 2, 1) := by decide +kernel
theorem dX10_would_32 : decode cX10_would 32 = .ok (.invokevirtual 157, 3) := by decide +kernel
theorem dX10_would_35 : decode cX10_would 35 = .ok (.ifCond .eq 5, 3) := by decide +kernel
theorem dX10_would_38 : decode cX10_would 38 = .ok (.iconst 0, 1) := by decide +kernel
theorem dX10_would_39 : decode cX10_would 39 = .ok (.ireturn, 1) := by decide +kernel
theorem dX10_would_40 : decode cX10_would 40 = .ok (.aload_n 0, 1) := by decide +kernel
theorem dX10_would_41 : decode cX10_would 41 = .ok (.iload_n 1, 1) := by decide +kernel
theorem dX10_would_42 : decode cX10_would 42 = .ok (.iload_n 2, 1) := by decide +kernel
theorem dX10_would_43 : decode cX10_would 43 = .ok (.invokevirtual 381, 3) := by decide +kernel
theorem dX10_would_46 : decode cX10_would 46 = .ok (.iload_n 3, 1) := by decide +kernel
theorem dX10_would_47 : decode cX10_would 47 = .ok (.ifCond .ne 10, 3) := by decide +kernel
theorem dX10_would_50 : decode cX10_would 50 = .ok (.aload_n 0, 1) := by decide +kernel
theorem dX10_would_51 : decode cX10_would 51 = .ok (.getfield 366, 3) := by decide +kernel
theorem dX10_would_54 : decode cX10_would 54 = .ok (.goto 19, 3) := by decide +kernel
theorem dX10_would_57 : decode cX10_would 57 = .ok (.iload_n 3, 1) := by decide +kernel
theorem dX10_would_58 : decode cX10_would 58 = .ok (.iconst 1, 1) := by decide +kernel
theorem dX10_would_59 : decode cX10_would 59 = .ok (.if_icmp .ne 10, 3) := by decide +kernel
theorem dX10_would_62 : decode cX10_would 62 = .ok (.aload_n 0, 1) := by decide +kernel
theorem dX10_would_63 : decode cX10_would 63 = .ok (.getfield 372, 3) := by decide +kernel
theorem dX10_would_66 : decode cX10_would 66 = .ok (.goto 7, 3) := by decide +kernel
theorem dX10_would_69 : decode cX10_would 69 = .ok (.aload_n 0, 1) := by decide +kernel
theorem dX10_would_70 : decode cX10_would 70 = .ok (.getfield 375, 3) := by decide +kernel
theorem dX10_would_73 : decode cX10_would 73 = .ok (.ireturn, 1) := by decide +kernel
theorem dX10_best_0 : decode cX10_best 0 = .ok (.aload_n 0, 1) := by decide +kernel
theorem dX10_best_1 : decode cX10_best 1 = .ok (.iconst 0, 1) := by decide +kernel
theorem dX10_best_2 : decode cX10_best 2 = .ok (.putfield 1, 3) := by decide +kernel
theorem dX10_best_5 : decode cX10_best 5 = .ok (.aload_n 0, 1) := by decide +kernel
theorem dX10_best_6 : decode cX10_best 6 = .ok (.iload_n 1, 1) := by decide +kernel
theorem dX10_best_7 : decode cX10_best 7 = .ok (.iconst 0, 1) := by decide +kernel
theorem dX10_best_8 : decode cX10_best 8 = .ok (.iconst 2, 1) := by decide +kernel
theorem dX10_best_9 : decode cX10_best 9 = .ok (.invokestatic 84, 3) := by decide +kernel
theorem dX10_best_12 : decode cX10_best 12 = .ok (.ifCond .ne 7, 3) := by decide +kernel
theorem dX10_best_15 : decode cX10_best 15 = .ok (.iconst 1, 1) := by decide +kernel
theorem dX10_best_16 : decode cX10_best 16 = .ok (.goto 4, 3) := by decide +kernel
theorem dX10_best_19 : decode cX10_best 19 = .ok (.iconst 0, 1) := by decide +kernel
theorem dX10_best_20 : decode cX10_best 20 = .ok (.iconst 1, 1) := by decide +kernel
theorem dX10_best_21 : decode cX10_best 21 = .ok (.invokevirtual 157, 3) := by decide +kernel
theorem dX10_best_24 : decode cX10_best 24 = .ok (.ifCond .eq 5, 3) := by decide +kernel
theorem dX10_best_27 : decode cX10_best 27 = .ok (.iconst 0, 1) := by decide +kernel
theorem dX10_best_28 : decode cX10_best 28 = .ok (.ireturn, 1) := by decide +kernel
theorem dX10_best_29 : decode cX10_best 29 = .ok (.iconst (-1), 1) := by decide +kernel
theorem dX10_best_30 : decode cX10_best 30 = .ok (.istore_n 2, 1) := by decide +kernel
theorem dX10_best_31 : decode cX10_best 31 = .ok (.iconst (-1), 1) := by decide +kernel
theorem dX10_best_32 : decode cX10_best 32 = .ok (.istore_n 3, 1) := by decide +kernel
theorem dX10_best_33 : decode cX10_best 33 = .ok (.iconst 0, 1) := by decide +kernel
theorem dX10_best_34 : decode cX10_best 34 = .ok (.istore 4, 2) := by decide +kernel
theorem dX10_best_36 : decode cX10_best 36 = .ok (.iconst 0, 1) := by decide +kernel
theorem dX10_best_37 : decode cX10_best 37 = .ok (.istore 5, 2) := by decide +kernel
theorem dX10_best_39 : decode cX10_best 39 = .ok (.iload 5, 2) := by decide +kernel
theorem dX10_best_41 : decode cX10_best 41 = .ok (.aload_n 0, 1) := by decide +kernel
theorem dX10_best_42 : decode cX10_best 42 = .ok (.invokevirtual 80, 3) := by decide +kernel
theorem dX10_best_45 : decode cX10_best 45 = .ok (.if_icmp .ge 59, 3) := by decide +kernel
theorem dX10_best_48 : decode cX10_best 48 = .ok (.iconst 0, 1) := by decide +kernel
theorem dX10_best_49 : decode cX10_best 49 = .ok (.istore 6, 2) := by decide +kernel
theorem dX10_best_51 : decode cX10_best 51 = .ok (.iload 6, 2) := by decide +kernel
theorem dX10_best_53 : decode cX10_best 53 = .ok (.aload_n 0, 1) := by decide +kernel
theorem dX10_best_54 : decode cX10_best 54 = .ok (.invokevirtual 80, 3) := by decide +kernel
theorem dX10_best_57 : decode cX10_best 57 = .ok (.if_icmp .ge 41, 3) := by decide +kernel
theorem dX10_best_60 : decode cX10_best 60 = .ok (.aload_n 0, 1) := by decide +kernel
theorem dX10_best_61 : decode cX10_best 61 = .ok (.iload 5, 2) := by decide +kernel
theorem dX10_best_63 : decode cX10_best 63 = .ok (.iload 6, 2) := by decide +kernel
theorem dX10_best_65 : decode cX10_best 65 = .ok (.invokevirtual 381, 3) := by decide +kernel
theorem dX10_best_68 : decode cX10_best 68 = .ok (.aload_n 0, 1) := by decide +kernel
theorem dX10_best_69 : decode cX10_best 69 = .ok (.getfield 375, 3) := by decide +kernel
theorem dX10_best_72 : decode cX10_best 72 = .ok (.iload 4, 2) := by decide +kernel
theorem dX10_best_74 : decode cX10_best 74 = .ok (.if_icmp .gt 6, 3) := by decide +kernel
theorem dX10_best_77 : decode cX10_best 77 = .ok (.goto 15, 3) := by decide +kernel
theorem dX10_best_80 : decode cX10_best 80 = .ok (.iload 5, 2) := by decide +kernel
theorem dX10_best_82 : decode cX10_best 82 = .ok (.istore_n 2, 1) := by decide +kernel
theorem dX10_best_83 : decode cX10_best 83 = .ok (.iload 6, 2) := by decide +kernel
theorem dX10_best_85 : decode cX10_best 85 = .ok (.istore_n 3, 1) := by decide +kernel
theorem dX10_best_86 : decode cX10_best 86 = .ok (.aload_n 0, 1) := by decide +kernel
theorem dX10_best_87 : decode cX10_best 87 = .ok (.getfield 375, 3) := by decide +kernel
theorem dX10_best_90 : decode cX10_best 90 = .ok (.istore 4, 2) := by decide +kernel
theorem dX10_best_92 : decode cX10_best 92 = .ok (.iinc 6 1, 3) := by decide +kernel
theorem dX10_best_95 : decode cX10_best 95 = .ok (.goto (-44), 3) := by decide +kernel
theorem dX10_best_98 : decode cX10_best 98 = .ok (.iinc 5 1, 3) := by decide +kernel
theorem dX10_best_101 : decode cX10_best 101 = .ok (.goto (-62), 3) := by decide +kernel
theorem dX10_best_104 : decode cX10_best 104 = .ok (.iload_n 1, 1) := by decide +kernel
theorem dX10_best_105 : decode cX10_best 105 = .ok (.ifCond .ne 7, 3) := by decide +kernel
theorem dX10_best_108 : decode cX10_best 108 = .ok (.iload_n 2, 1) := by decide +kernel
theorem dX10_best_109 : decode cX10_best 109 = .ok (.goto 14, 3) := by decide +kernel
theorem dX10_best_112 : decode cX10_best 112 = .ok (.iload_n 1, 1) := by decide +kernel
theorem dX10_best_113 : decode cX10_best 113 = .ok (.iconst 1, 1) := by decide +kernel
theorem dX10_best_114 : decode cX10_best 114 = .ok (.if_icmp .ne 7, 3) := by decide +kernel
theorem dX10_best_117 : decode cX10_best 117 = .ok (.iload_n 3, 1) := by decide +kernel
theorem dX10_best_118 : decode cX10_best 118 = .ok (.goto 5, 3) := by decide +kernel
theorem dX10_best_121 : decode cX10_best 121 = .ok (.iload 4, 2) := by decide +kernel
theorem dX10_best_123 : decode cX10_best 123 = .ok (.ireturn, 1) := by decide +kernel
theorem dX10_writes_0 : decode cX10_writes 0 = .ok (.aload_n 0, 1) := by decide +kernel
theorem dX10_writes_1 : decode cX10_writes 1 = .ok (.getfield 73, 3) := by decide +kernel
theorem dX10_writes_4 : decode cX10_writes 4 = .ok (.aload_n 0, 1) := by decide +kernel
theorem dX10_writes_5 : decode cX10_writes 5 = .ok (.getfield 385, 3) := by decide +kernel
theorem dX10_writes_8 : decode cX10_writes 8 = .ok (.iload_n 1, 1) := by decide +kernel
theorem dX10_writes_9 : decode cX10_writes 9 = .ok (.i2b, 1) := by decide +kernel
theorem dX10_writes_10 : decode cX10_writes 10 = .ok (.bastore, 1) := by decide +kernel
theorem dX10_writes_11 : decode cX10_writes 11 = .ok (.aload_n 0, 1) := by decide +kernel
theorem dX10_writes_12 : decode cX10_writes 12 = .ok (.dup, 1) := by decide +kernel
theorem dX10_writes_13 : decode cX10_writes 13 = .ok (.getfield 385, 3) := by decide +kernel
theorem dX10_writes_16 : decode cX10_writes 16 = .ok (.iconst 1, 1) := by decide +kernel
theorem dX10_writes_17 : decode cX10_writes 17 = .ok (.iadd, 1) := by decide +kernel
theorem dX10_writes_18 : decode cX10_writes 18 = .ok (.putfield 385, 3) := by decide +kernel
theorem dX10_writes_21 : decode cX10_writes 21 = .ok (.return_, 1) := by decide +kernel
theorem dX10_text_0 : decode cX10_text 0 = .ok (.aload_n 0, 1) := by decide +kernel
theorem dX10_text_1 : decode cX10_text 1 = .ok (.iload_n 1, 1) := by decide +kernel
theorem dX10_text_2 : decode cX10_text 2 = .ok (.invokevirtual 303, 3) := by decide +kernel
theorem dX10_text_5 : decode cX10_text 5 = .ok (.ifCond .eq 5, 3) := by decide +kernel
theorem dX10_text_8 : decode cX10_text 8 = .ok (.iconst 0, 1) := by decide +kernel
theorem dX10_text_9 : decode cX10_text 9 = .ok (.ireturn, 1) := by decide +kernel
theorem dX10_text_10 : decode cX10_text 10 = .ok (.aload_n 0, 1) := by decide +kernel
theorem dX10_text_11 : decode cX10_text 11 = .ok (.iconst 0, 1) := by decide +kernel
theorem dX10_text_12 : decode cX10_text 12 = .ok (.putfield 385, 3) := by decide +kernel
theorem dX10_text_15 : decode cX10_text 15 = .ok (.iconst 0, 1) := by decide +kernel
theorem dX10_text_16 : decode cX10_text 16 = .ok (.istore_n 2, 1) := by decide +kernel
theorem dX10_text_17 : decode cX10_text 17 = .ok (.aload_n 0, 1) := by decide +kernel
theorem dX10_text_18 : decode cX10_text 18 = .ok (.getfield 120, 3) := by decide +kernel
theorem dX10_text_21 : decode cX10_text 21 = .ok (.iload_n 1, 1) := by decide +kernel
theorem dX10_text_22 : decode cX10_text 22 = .ok (.invokestatic 99, 3) := by decide +kernel
theorem dX10_text_25 : decode cX10_text 25 = .ok (.ifCond .eq 59, 3) := by decide +kernel
theorem dX10_text_28 : decode cX10_text 28 = .ok (.iload_n 2, 1) := by decide +kernel
theorem dX10_text_29 : decode cX10_text 29 = .ok (.aload_n 0, 1) := by decide +kernel
theorem dX10_text_30 : decode cX10_text 30 = .ok (.getfield 35, 3) := by decide +kernel
theorem dX10_text_33 : decode cX10_text 33 = .ok (.iload_n 1, 1) := by decide +kernel
theorem dX10_text_34 : decode cX10_text 34 = .ok (.iaload, 1) := by decide +kernel
theorem dX10_text_35 : decode cX10_text 35 = .ok (.if_icmp .gt 49, 3) := by decide +kernel
theorem dX10_text_38 : decode cX10_text 38 = .ok (.aload_n 0, 1) := by decide +kernel
theorem dX10_text_39 : decode cX10_text 39 = .ok (.iload_n 1, 1) := by decide +kernel
theorem dX10_text_40 : decode cX10_text 40 = .ok (.iload_n 2, 1) := by decide +kernel
theorem dX10_text_41 : decode cX10_text 41 = .ok (.invokevirtual 357, 3) := by decide +kernel
theorem dX10_text_44 : decode cX10_text 44 = .ok (.istore_n 3, 1) := by decide +kernel
theorem dX10_text_45 : decode cX10_text 45 = .ok (.iload_n 2, 1) := by decide +kernel
theorem dX10_text_46 : decode cX10_text 46 = .ok (.ifCond .le 9, 3) := by decide +kernel
theorem dX10_text_49 : decode cX10_text 49 = .ok (.aload_n 0, 1) := by decide +kernel
theorem dX10_text_50 : decode cX10_text 50 = .ok (.bipush 32, 2) := by decide +kernel
theorem dX10_text_52 : decode cX10_text 52 = .ok (.invokevirtual 388, 3) := by decide +kernel
theorem dX10_text_55 : decode cX10_text 55 = .ok (.iload_n 3, 1) := by decide +kernel
theorem dX10_text_56 : decode cX10_text 56 = .ok (.bipush 9, 2) := by decide +kernel
theorem dX10_text_58 : decode cX10_text 58 = .ok (.if_icmp .le 9, 3) := by decide +kernel
theorem dX10_text_61 : decode cX10_text 61 = .ok (.aload_n 0, 1) := by decide +kernel
theorem dX10_text_62 : decode cX10_text 62 = .ok (.bipush 49, 2) := by decide +kernel
theorem dX10_text_64 : decode cX10_text 64 = .ok (.invokevirtual 388, 3) := by decide +kernel
theorem dX10_text_67 : decode cX10_text 67 = .ok (.aload_n 0, 1) := by decide +kernel
theorem dX10_text_68 : decode cX10_text 68 = .ok (.bipush 48, 2) := by decide +kernel
theorem dX10_text_70 : decode cX10_text 70 = .ok (.iload_n 3, 1) := by decide +kernel
theorem dX10_text_71 : decode cX10_text 71 = .ok (.bipush 10, 2) := by decide +kernel
theorem dX10_text_73 : decode cX10_text 73 = .ok (.irem, 1) := by decide +kernel
theorem dX10_text_74 : decode cX10_text 74 = .ok (.iadd, 1) := by decide +kernel
theorem dX10_text_75 : decode cX10_text 75 = .ok (.invokevirtual 388, 3) := by decide +kernel
theorem dX10_text_78 : decode cX10_text 78 = .ok (.iinc 2 1, 3) := by decide +kernel
theorem dX10_text_81 : decode cX10_text 81 = .ok (.goto (-64), 3) := by decide +kernel
theorem dX10_text_84 : decode cX10_text 84 = .ok (.aload_n 0, 1) := by decide +kernel
theorem dX10_text_85 : decode cX10_text 85 = .ok (.getfield 385, 3) := by decide +kernel
theorem dX10_text_88 : decode cX10_text 88 = .ok (.ireturn, 1) := by decide +kernel
theorem dX10_octet_0 : decode cX10_octet 0 = .ok (.aload_n 0, 1) := by decide +kernel
theorem dX10_octet_1 : decode cX10_octet 1 = .ok (.iconst 0, 1) := by decide +kernel
theorem dX10_octet_2 : decode cX10_octet 2 = .ok (.putfield 1, 3) := by decide +kernel
theorem dX10_octet_5 : decode cX10_octet 5 = .ok (.iload_n 1, 1) := by decide +kernel
theorem dX10_octet_6 : decode cX10_octet 6 = .ok (.iconst 0, 1) := by decide +kernel
theorem dX10_octet_7 : decode cX10_octet 7 = .ok (.aload_n 0, 1) := by decide +kernel
theorem dX10_octet_8 : decode cX10_octet 8 = .ok (.getfield 385, 3) := by decide +kernel
theorem dX10_octet_11 : decode cX10_octet 11 = .ok (.iconst 1, 1) := by decide +kernel
theorem dX10_octet_12 : decode cX10_octet 12 = .ok (.isub, 1) := by decide +kernel
theorem dX10_octet_13 : decode cX10_octet 13 = .ok (.invokestatic 84, 3) := by decide +kernel
theorem dX10_octet_16 : decode cX10_octet 16 = .ok (.ifCond .eq 12, 3) := by decide +kernel
theorem dX10_octet_19 : decode cX10_octet 19 = .ok (.aload_n 0, 1) := by decide +kernel
theorem dX10_octet_20 : decode cX10_octet 20 = .ok (.getfield 73, 3) := by decide +kernel
theorem dX10_octet_23 : decode cX10_octet 23 = .ok (.iload_n 1, 1) := by decide +kernel
theorem dX10_octet_24 : decode cX10_octet 24 = .ok (.baload, 1) := by decide +kernel
theorem dX10_octet_25 : decode cX10_octet 25 = .ok (.goto 4, 3) := by decide +kernel
theorem dX10_octet_28 : decode cX10_octet 28 = .ok (.iconst (-1), 1) := by decide +kernel
theorem dX10_octet_29 : decode cX10_octet 29 = .ok (.ireturn, 1) := by decide +kernel
theorem dX10_openOnes_0 : decode cX10_openOnes 0 = .ok (.iconst 0, 1) := by decide +kernel
theorem dX10_openOnes_1 : decode cX10_openOnes 1 = .ok (.istore_n 1, 1) := by decide +kernel
theorem dX10_openOnes_2 : decode cX10_openOnes 2 = .ok (.iconst 0, 1) := by decide +kernel
theorem dX10_openOnes_3 : decode cX10_openOnes 3 = .ok (.istore_n 2, 1) := by decide +kernel
theorem dX10_openOnes_4 : decode cX10_openOnes 4 = .ok (.iload_n 2, 1) := by decide +kernel
theorem dX10_openOnes_5 : decode cX10_openOnes 5 = .ok (.aload_n 0, 1) := by decide +kernel
theorem dX10_openOnes_6 : decode cX10_openOnes 6 = .ok (.invokevirtual 88, 3) := by decide +kernel
theorem dX10_openOnes_9 : decode cX10_openOnes 9 = .ok (.if_icmp .ge 22, 3) := by decide +kernel
theorem dX10_openOnes_12 : decode cX10_openOnes 12 = .ok (.iload_n 1, 1) := by decide +kernel
theorem dX10_openOnes_13 : decode cX10_openOnes 13 = .ok (.aload_n 0, 1) := by decide +kernel
theorem dX10_openOnes_14 : decode cX10_openOnes 14 = .ok (.getfield 13, 3) := by decide +kernel
theorem dX10_openOnes_17 : decode cX10_openOnes 17 = .ok (.sipush 140, 3) := by decide +kernel
theorem dX10_openOnes_20 : decode cX10_openOnes 20 = .ok (.iload_n 2, 1) := by decide +kernel
theorem dX10_openOnes_21 : decode cX10_openOnes 21 = .ok (.iadd, 1) := by decide +kernel
theorem dX10_openOnes_22 : decode cX10_openOnes 22 = .ok (.iaload, 1) := by decide +kernel
theorem dX10_openOnes_23 : decode cX10_openOnes 23 = .ok (.iadd, 1) := by decide +kernel
theorem dX10_openOnes_24 : decode cX10_openOnes 24 = .ok (.istore_n 1, 1) := by decide +kernel
theorem dX10_openOnes_25 : decode cX10_openOnes 25 = .ok (.iinc 2 1, 3) := by decide +kernel
theorem dX10_openOnes_28 : decode cX10_openOnes 28 = .ok (.goto (-24), 3) := by decide +kernel
theorem dX10_openOnes_31 : decode cX10_openOnes 31 = .ok (.iload_n 1, 1) := by decide +kernel
theorem dX10_openOnes_32 : decode cX10_openOnes 32 = .ok (.ireturn, 1) := by decide +kernel
theorem dX10_heads_0 : decode cX10_heads 0 = .ok (.iconst 0, 1) := by decide +kernel
theorem dX10_heads_1 : decode cX10_heads 1 = .ok (.istore_n 1, 1) := by decide +kernel
theorem dX10_heads_2 : decode cX10_heads 2 = .ok (.iconst 0, 1) := by decide +kernel
theorem dX10_heads_3 : decode cX10_heads 3 = .ok (.istore_n 2, 1) := by decide +kernel
theorem dX10_heads_4 : decode cX10_heads 4 = .ok (.iload_n 2, 1) := by decide +kernel
theorem dX10_heads_5 : decode cX10_heads 5 = .ok (.aload_n 0, 1) := by decide +kernel
theorem dX10_heads_6 : decode cX10_heads 6 = .ok (.invokevirtual 88, 3) := by decide +kernel
theorem dX10_heads_9 : decode cX10_heads 9 = .ok (.if_icmp .ge 31, 3) := by decide +kernel
theorem dX10_heads_12 : decode cX10_heads 12 = .ok (.iload_n 1, 1) := by decide +kernel
theorem dX10_heads_13 : decode cX10_heads 13 = .ok (.aload_n 0, 1) := by decide +kernel
theorem dX10_heads_14 : decode cX10_heads 14 = .ok (.iload_n 2, 1) := by decide +kernel
theorem dX10_heads_15 : decode cX10_heads 15 = .ok (.invokevirtual 282, 3) := by decide +kernel
theorem dX10_heads_18 : decode cX10_heads 18 = .ok (.ifCond .eq 13, 3) := by decide +kernel
theorem dX10_heads_21 : decode cX10_heads 21 = .ok (.iconst 1, 1) := by decide +kernel
theorem dX10_heads_22 : decode cX10_heads 22 = .ok (.aload_n 0, 1) := by decide +kernel
theorem dX10_heads_23 : decode cX10_heads 23 = .ok (.iload_n 2, 1) := by decide +kernel
theorem dX10_heads_24 : decode cX10_heads 24 = .ok (.invokevirtual 103, 3) := by decide +kernel
theorem dX10_heads_27 : decode cX10_heads 27 = .ok (.ishl, 1) := by decide +kernel
theorem dX10_heads_28 : decode cX10_heads 28 = .ok (.goto 4, 3) := by decide +kernel
theorem dX10_heads_31 : decode cX10_heads 31 = .ok (.iconst 0, 1) := by decide +kernel
theorem dX10_heads_32 : decode cX10_heads 32 = .ok (.ior, 1) := by decide +kernel
theorem dX10_heads_33 : decode cX10_heads 33 = .ok (.istore_n 1, 1) := by decide +kernel
theorem dX10_heads_34 : decode cX10_heads 34 = .ok (.iinc 2 1, 3) := by decide +kernel
theorem dX10_heads_37 : decode cX10_heads 37 = .ok (.goto (-33), 3) := by decide +kernel
theorem dX10_heads_40 : decode cX10_heads 40 = .ok (.iload_n 1, 1) := by decide +kernel
theorem dX10_heads_41 : decode cX10_heads 41 = .ok (.ireturn, 1) := by decide +kernel
theorem dX10_manyArcs_0 : decode cX10_manyArcs 0 = .ok (.iconst 0, 1) := by decide +kernel
theorem dX10_manyArcs_1 : decode cX10_manyArcs 1 = .ok (.istore_n 2, 1) := by decide +kernel
theorem dX10_manyArcs_2 : decode cX10_manyArcs 2 = .ok (.iconst 0, 1) := by decide +kernel
theorem dX10_manyArcs_3 : decode cX10_manyArcs 3 = .ok (.istore_n 3, 1) := by decide +kernel
theorem dX10_manyArcs_4 : decode cX10_manyArcs 4 = .ok (.iload_n 3, 1) := by decide +kernel
theorem dX10_manyArcs_5 : decode cX10_manyArcs 5 = .ok (.aload_n 0, 1) := by decide +kernel
theorem dX10_manyArcs_6 : decode cX10_manyArcs 6 = .ok (.invokevirtual 88, 3) := by decide +kernel
theorem dX10_manyArcs_9 : decode cX10_manyArcs 9 = .ok (.if_icmp .ge 40, 3) := by decide +kernel
theorem dX10_manyArcs_12 : decode cX10_manyArcs 12 = .ok (.iload_n 2, 1) := by decide +kernel
theorem dX10_manyArcs_13 : decode cX10_manyArcs 13 = .ok (.iload_n 1, 1) := by decide +kernel
theorem dX10_manyArcs_14 : decode cX10_manyArcs 14 = .ok (.ifCond .eq 14, 3) := by decide +kernel
theorem dX10_manyArcs_17 : decode cX10_manyArcs 17 = .ok (.aload_n 0, 1) := by decide +kernel
theorem dX10_manyArcs_18 : decode cX10_manyArcs 18 = .ok (.iload_n 3, 1) := by decide +kernel
theorem dX10_manyArcs_19 : decode cX10_manyArcs 19 = .ok (.invokevirtual 282, 3) := by decide +kernel
theorem dX10_manyArcs_22 : decode cX10_manyArcs 22 = .ok (.ifCond .eq 18, 3) := by decide +kernel
theorem dX10_manyArcs_25 : decode cX10_manyArcs 25 = .ok (.goto 11, 3) := by decide +kernel
theorem dX10_manyArcs_28 : decode cX10_manyArcs 28 = .ok (.aload_n 0, 1) := by decide +kernel
theorem dX10_manyArcs_29 : decode cX10_manyArcs 29 = .ok (.iload_n 3, 1) := by decide +kernel
theorem dX10_manyArcs_30 : decode cX10_manyArcs 30 = .ok (.invokevirtual 351, 3) := by decide +kernel
theorem dX10_manyArcs_33 : decode cX10_manyArcs 33 = .ok (.ifCond .eq 7, 3) := by decide +kernel
theorem dX10_manyArcs_36 : decode cX10_manyArcs 36 = .ok (.iconst 1, 1) := by decide +kernel
theorem dX10_manyArcs_37 : decode cX10_manyArcs 37 = .ok (.goto 4, 3) := by decide +kernel
theorem dX10_manyArcs_40 : decode cX10_manyArcs 40 = .ok (.iconst 0, 1) := by decide +kernel
theorem dX10_manyArcs_41 : decode cX10_manyArcs 41 = .ok (.iadd, 1) := by decide +kernel
theorem dX10_manyArcs_42 : decode cX10_manyArcs 42 = .ok (.istore_n 2, 1) := by decide +kernel
theorem dX10_manyArcs_43 : decode cX10_manyArcs 43 = .ok (.iinc 3 1, 3) := by decide +kernel
theorem dX10_manyArcs_46 : decode cX10_manyArcs 46 = .ok (.goto (-42), 3) := by decide +kernel
theorem dX10_manyArcs_49 : decode cX10_manyArcs 49 = .ok (.iload_n 2, 1) := by decide +kernel
theorem dX10_manyArcs_50 : decode cX10_manyArcs 50 = .ok (.ireturn, 1) := by decide +kernel
theorem dX10_isSound_0 : decode cX10_isSound 0 = .ok (.aload_n 0, 1) := by decide +kernel
theorem dX10_isSound_1 : decode cX10_isSound 1 = .ok (.getfield 120, 3) := by decide +kernel
theorem dX10_isSound_4 : decode cX10_isSound 4 = .ok (.istore_n 1, 1) := by decide +kernel
theorem dX10_isSound_5 : decode cX10_isSound 5 = .ok (.iconst 0, 1) := by decide +kernel
theorem dX10_isSound_6 : decode cX10_isSound 6 = .ok (.istore_n 2, 1) := by decide +kernel
theorem dX10_isSound_7 : decode cX10_isSound 7 = .ok (.iload_n 1, 1) := by decide +kernel
theorem dX10_isSound_8 : decode cX10_isSound 8 = .ok (.iload_n 2, 1) := by decide +kernel
theorem dX10_isSound_9 : decode cX10_isSound 9 = .ok (.if_icmp .eq 74, 3) := by decide +kernel
theorem dX10_isSound_12 : decode cX10_isSound 12 = .ok (.iload_n 1, 1) := by decide +kernel
theorem dX10_isSound_13 : decode cX10_isSound 13 = .ok (.istore_n 2, 1) := by decide +kernel
theorem dX10_isSound_14 : decode cX10_isSound 14 = .ok (.iconst 0, 1) := by decide +kernel
theorem dX10_isSound_15 : decode cX10_isSound 15 = .ok (.istore_n 3, 1) := by decide +kernel
theorem dX10_isSound_16 : decode cX10_isSound 16 = .ok (.iconst 0, 1) := by decide +kernel
theorem dX10_isSound_17 : decode cX10_isSound 17 = .ok (.istore 4, 2) := by decide +kernel
theorem dX10_isSound_19 : decode cX10_isSound 19 = .ok (.iload 4, 2) := by decide +kernel
theorem dX10_isSound_21 : decode cX10_isSound 21 = .ok (.aload_n 0, 1) := by decide +kernel
theorem dX10_isSound_22 : decode cX10_isSound 22 = .ok (.invokevirtual 88, 3) := by decide +kernel
theorem dX10_isSound_25 : decode cX10_isSound 25 = .ok (.if_icmp .ge 51, 3) := by decide +kernel
theorem dX10_isSound_28 : decode cX10_isSound 28 = .ok (.aload_n 0, 1) := by decide +kernel
theorem dX10_isSound_29 : decode cX10_isSound 29 = .ok (.iload 4, 2) := by decide +kernel
theorem dX10_isSound_31 : decode cX10_isSound 31 = .ok (.invokevirtual 91, 3) := by decide +kernel
theorem dX10_isSound_34 : decode cX10_isSound 34 = .ok (.ifCond .eq 36, 3) := by decide +kernel
theorem dX10_isSound_37 : decode cX10_isSound 37 = .ok (.aload_n 0, 1) := by decide +kernel
theorem dX10_isSound_38 : decode cX10_isSound 38 = .ok (.iload 4, 2) := by decide +kernel
theorem dX10_isSound_40 : decode cX10_isSound 40 = .ok (.invokevirtual 282, 3) := by decide +kernel
theorem dX10_isSound_43 : decode cX10_isSound 43 = .ok (.ifCond .ne 27, 3) := by decide +kernel
theorem dX10_isSound_46 : decode cX10_isSound 46 = .ok (.iload_n 1, 1) := by decide +kernel
theorem dX10_isSound_47 : decode cX10_isSound 47 = .ok (.aload_n 0, 1) := by decide +kernel
theorem dX10_isSound_48 : decode cX10_isSound 48 = .ok (.iload 4, 2) := by decide +kernel
theorem dX10_isSound_50 : decode cX10_isSound 50 = .ok (.invokevirtual 95, 3) := by decide +kernel
theorem dX10_isSound_53 : decode cX10_isSound 53 = .ok (.invokestatic 99, 3) := by decide +kernel
theorem dX10_isSound_56 : decode cX10_isSound 56 = .ok (.ifCond .eq 14, 3) := by decide +kernel
theorem dX10_isSound_59 : decode cX10_isSound 59 = .ok (.iload_n 3, 1) := by decide +kernel
theorem dX10_isSound_60 : decode cX10_isSound 60 = .ok (.iconst 1, 1) := by decide +kernel
theorem dX10_isSound_61 : decode cX10_isSound 61 = .ok (.aload_n 0, 1) := by decide +kernel
theorem dX10_isSound_62 : decode cX10_isSound 62 = .ok (.iload 4, 2) := by decide +kernel
theorem dX10_isSound_64 : decode cX10_isSound 64 = .ok (.invokevirtual 103, 3) := by decide +kernel
theorem dX10_isSound_67 : decode cX10_isSound 67 = .ok (.ishl, 1) := by decide +kernel
theorem dX10_isSound_68 : decode cX10_isSound 68 = .ok (.ior, 1) := by decide +kernel
theorem dX10_isSound_69 : decode cX10_isSound 69 = .ok (.istore_n 3, 1) := by decide +kernel
theorem dX10_isSound_70 : decode cX10_isSound 70 = .ok (.iinc 4 1, 3) := by decide +kernel
theorem dX10_isSound_73 : decode cX10_isSound 73 = .ok (.goto (-54), 3) := by decide +kernel
theorem dX10_isSound_76 : decode cX10_isSound 76 = .ok (.iload_n 1, 1) := by decide +kernel
theorem dX10_isSound_77 : decode cX10_isSound 77 = .ok (.iload_n 3, 1) := by decide +kernel
theorem dX10_isSound_78 : decode cX10_isSound 78 = .ok (.iand, 1) := by decide +kernel
theorem dX10_isSound_79 : decode cX10_isSound 79 = .ok (.istore_n 1, 1) := by decide +kernel
theorem dX10_isSound_80 : decode cX10_isSound 80 = .ok (.goto (-73), 3) := by decide +kernel
theorem dX10_isSound_83 : decode cX10_isSound 83 = .ok (.iload_n 1, 1) := by decide +kernel
theorem dX10_isSound_84 : decode cX10_isSound 84 = .ok (.ifCond .ne 7, 3) := by decide +kernel
theorem dX10_isSound_87 : decode cX10_isSound 87 = .ok (.iconst 1, 1) := by decide +kernel
theorem dX10_isSound_88 : decode cX10_isSound 88 = .ok (.goto 4, 3) := by decide +kernel
theorem dX10_isSound_91 : decode cX10_isSound 91 = .ok (.iconst 0, 1) := by decide +kernel
theorem dX10_isSound_92 : decode cX10_isSound 92 = .ok (.ireturn, 1) := by decide +kernel
theorem dX10_depths_0 : decode cX10_depths 0 = .ok (.iconst 0, 1) := by decide +kernel
theorem dX10_depths_1 : decode cX10_depths 1 = .ok (.istore_n 2, 1) := by decide +kernel
theorem dX10_depths_2 : decode cX10_depths 2 = .ok (.iconst 0, 1) := by decide +kernel
theorem dX10_depths_3 : decode cX10_depths 3 = .ok (.istore_n 3, 1) := by decide +kernel
theorem dX10_depths_4 : decode cX10_depths 4 = .ok (.iload_n 3, 1) := by decide +kernel
theorem dX10_depths_5 : decode cX10_depths 5 = .ok (.aload_n 0, 1) := by decide +kernel
theorem dX10_depths_6 : decode cX10_depths 6 = .ok (.invokevirtual 80, 3) := by decide +kernel
theorem dX10_depths_9 : decode cX10_depths 9 = .ok (.if_icmp .ge 39, 3) := by decide +kernel
theorem dX10_depths_12 : decode cX10_depths 12 = .ok (.iload_n 1, 1) := by decide +kernel
theorem dX10_depths_13 : decode cX10_depths 13 = .ok (.ifCond .eq 18, 3) := by decide +kernel
theorem dX10_depths_16 : decode cX10_depths 16 = .ok (.iload_n 2, 1) := by decide +kernel
theorem dX10_depths_17 : decode cX10_depths 17 = .ok (.iconst 0, 1) := by decide +kernel
theorem dX10_depths_18 : decode cX10_depths 18 = .ok (.aload_n 0, 1) := by decide +kernel
theorem dX10_depths_19 : decode cX10_depths 19 = .ok (.getfield 35, 3) := by decide +kernel
theorem dX10_depths_22 : decode cX10_depths 22 = .ok (.iload_n 3, 1) := by decide +kernel
theorem dX10_depths_23 : decode cX10_depths 23 = .ok (.iaload, 1) := by decide +kernel
theorem dX10_depths_24 : decode cX10_depths 24 = .ok (.invokestatic 391, 3) := by decide +kernel
theorem dX10_depths_27 : decode cX10_depths 27 = .ok (.iadd, 1) := by decide +kernel
theorem dX10_depths_28 : decode cX10_depths 28 = .ok (.goto 13, 3) := by decide +kernel
theorem dX10_depths_31 : decode cX10_depths 31 = .ok (.iload_n 2, 1) := by decide +kernel
theorem dX10_depths_32 : decode cX10_depths 32 = .ok (.aload_n 0, 1) := by decide +kernel
theorem dX10_depths_33 : decode cX10_depths 33 = .ok (.getfield 35, 3) := by decide +kernel
theorem dX10_depths_36 : decode cX10_depths 36 = .ok (.iload_n 3, 1) := by decide +kernel
theorem dX10_depths_37 : decode cX10_depths 37 = .ok (.iaload, 1) := by decide +kernel
theorem dX10_depths_38 : decode cX10_depths 38 = .ok (.invokestatic 391, 3) := by decide +kernel
theorem dX10_depths_41 : decode cX10_depths 41 = .ok (.istore_n 2, 1) := by decide +kernel
theorem dX10_depths_42 : decode cX10_depths 42 = .ok (.iinc 3 1, 3) := by decide +kernel
theorem dX10_depths_45 : decode cX10_depths 45 = .ok (.goto (-41), 3) := by decide +kernel
theorem dX10_depths_48 : decode cX10_depths 48 = .ok (.iload_n 2, 1) := by decide +kernel
theorem dX10_depths_49 : decode cX10_depths 49 = .ok (.ireturn, 1) := by decide +kernel
theorem dX10_leaves_0 : decode cX10_leaves 0 = .ok (.iconst 0, 1) := by decide +kernel
theorem dX10_leaves_1 : decode cX10_leaves 1 = .ok (.istore_n 1, 1) := by decide +kernel
theorem dX10_leaves_2 : decode cX10_leaves 2 = .ok (.iconst 0, 1) := by decide +kernel
theorem dX10_leaves_3 : decode cX10_leaves 3 = .ok (.istore_n 2, 1) := by decide +kernel
theorem dX10_leaves_4 : decode cX10_leaves 4 = .ok (.iload_n 2, 1) := by decide +kernel
theorem dX10_leaves_5 : decode cX10_leaves 5 = .ok (.aload_n 0, 1) := by decide +kernel
theorem dX10_leaves_6 : decode cX10_leaves 6 = .ok (.invokevirtual 80, 3) := by decide +kernel
theorem dX10_leaves_9 : decode cX10_leaves 9 = .ok (.if_icmp .ge 38, 3) := by decide +kernel
theorem dX10_leaves_12 : decode cX10_leaves 12 = .ok (.iload_n 1, 1) := by decide +kernel
theorem dX10_leaves_13 : decode cX10_leaves 13 = .ok (.aload_n 0, 1) := by decide +kernel
theorem dX10_leaves_14 : decode cX10_leaves 14 = .ok (.getfield 120, 3) := by decide +kernel
theorem dX10_leaves_17 : decode cX10_leaves 17 = .ok (.iload_n 2, 1) := by decide +kernel
theorem dX10_leaves_18 : decode cX10_leaves 18 = .ok (.invokestatic 99, 3) := by decide +kernel
theorem dX10_leaves_21 : decode cX10_leaves 21 = .ok (.ifCond .eq 17, 3) := by decide +kernel
theorem dX10_leaves_24 : decode cX10_leaves 24 = .ok (.aload_n 0, 1) := by decide +kernel
theorem dX10_leaves_25 : decode cX10_leaves 25 = .ok (.iload_n 2, 1) := by decide +kernel
theorem dX10_leaves_26 : decode cX10_leaves 26 = .ok (.invokevirtual 276, 3) := by decide +kernel
theorem dX10_leaves_29 : decode cX10_leaves 29 = .ok (.ifCond .ne 9, 3) := by decide +kernel
theorem dX10_leaves_32 : decode cX10_leaves 32 = .ok (.iconst 1, 1) := by decide +kernel
theorem dX10_leaves_33 : decode cX10_leaves 33 = .ok (.iload_n 2, 1) := by decide +kernel
theorem dX10_leaves_34 : decode cX10_leaves 34 = .ok (.ishl, 1) := by decide +kernel
theorem dX10_leaves_35 : decode cX10_leaves 35 = .ok (.goto 4, 3) := by decide +kernel
theorem dX10_leaves_38 : decode cX10_leaves 38 = .ok (.iconst 0, 1) := by decide +kernel
theorem dX10_leaves_39 : decode cX10_leaves 39 = .ok (.ior, 1) := by decide +kernel
theorem dX10_leaves_40 : decode cX10_leaves 40 = .ok (.istore_n 1, 1) := by decide +kernel
theorem dX10_leaves_41 : decode cX10_leaves 41 = .ok (.iinc 2 1, 3) := by decide +kernel
theorem dX10_leaves_44 : decode cX10_leaves 44 = .ok (.goto (-40), 3) := by decide +kernel
theorem dX10_leaves_47 : decode cX10_leaves 47 = .ok (.iload_n 1, 1) := by decide +kernel
theorem dX10_leaves_48 : decode cX10_leaves 48 = .ok (.ireturn, 1) := by decide +kernel
theorem dX10_mostNest_0 : decode cX10_mostNest 0 = .ok (.iconst 0, 1) := by decide +kernel
theorem dX10_mostNest_1 : decode cX10_mostNest 1 = .ok (.istore_n 1, 1) := by decide +kernel
theorem dX10_mostNest_2 : decode cX10_mostNest 2 = .ok (.iconst 0, 1) := by decide +kernel
theorem dX10_mostNest_3 : decode cX10_mostNest 3 = .ok (.istore_n 2, 1) := by decide +kernel
theorem dX10_mostNest_4 : decode cX10_mostNest 4 = .ok (.iload_n 2, 1) := by decide +kernel
theorem dX10_mostNest_5 : decode cX10_mostNest 5 = .ok (.aload_n 0, 1) := by decide +kernel
theorem dX10_mostNest_6 : decode cX10_mostNest 6 = .ok (.invokevirtual 80, 3) := by decide +kernel
theorem dX10_mostNest_9 : decode cX10_mostNest 9 = .ok (.if_icmp .ge 19, 3) := by decide +kernel
theorem dX10_mostNest_12 : decode cX10_mostNest 12 = .ok (.iload_n 1, 1) := by decide +kernel
theorem dX10_mostNest_13 : decode cX10_mostNest 13 = .ok (.aload_n 0, 1) := by decide +kernel
theorem dX10_mostNest_14 : decode cX10_mostNest 14 = .ok (.iload_n 2, 1) := by decide +kernel
theorem dX10_mostNest_15 : decode cX10_mostNest 15 = .ok (.invokevirtual 318, 3) := by decide +kernel
theorem dX10_mostNest_18 : decode cX10_mostNest 18 = .ok (.invokestatic 391, 3) := by decide +kernel
theorem dX10_mostNest_21 : decode cX10_mostNest 21 = .ok (.istore_n 1, 1) := by decide +kernel
theorem dX10_mostNest_22 : decode cX10_mostNest 22 = .ok (.iinc 2 1, 3) := by decide +kernel
theorem dX10_mostNest_25 : decode cX10_mostNest 25 = .ok (.goto (-21), 3) := by decide +kernel
theorem dX10_mostNest_28 : decode cX10_mostNest 28 = .ok (.iload_n 1, 1) := by decide +kernel
theorem dX10_mostNest_29 : decode cX10_mostNest 29 = .ok (.ireturn, 1) := by decide +kernel
theorem dX10_spans_0 : decode cX10_spans 0 = .ok (.iconst 0, 1) := by decide +kernel
theorem dX10_spans_1 : decode cX10_spans 1 = .ok (.istore_n 1, 1) := by decide +kernel
theorem dX10_spans_2 : decode cX10_spans 2 = .ok (.iconst 0, 1) := by decide +kernel
theorem dX10_spans_3 : decode cX10_spans 3 = .ok (.istore_n 2, 1) := by decide +kernel
theorem dX10_spans_4 : decode cX10_spans 4 = .ok (.iload_n 2, 1) := by decide +kernel
theorem dX10_spans_5 : decode cX10_spans 5 = .ok (.aload_n 0, 1) := by decide +kernel
theorem dX10_spans_6 : decode cX10_spans 6 = .ok (.invokevirtual 80, 3) := by decide +kernel
theorem dX10_spans_9 : decode cX10_spans 9 = .ok (.if_icmp .ge 20, 3) := by decide +kernel
theorem dX10_spans_12 : decode cX10_spans 12 = .ok (.iload_n 1, 1) := by decide +kernel
theorem dX10_spans_13 : decode cX10_spans 13 = .ok (.aload_n 0, 1) := by decide +kernel
theorem dX10_spans_14 : decode cX10_spans 14 = .ok (.iload_n 2, 1) := by decide +kernel
theorem dX10_spans_15 : decode cX10_spans 15 = .ok (.invokevirtual 396, 3) := by decide +kernel
theorem dX10_spans_18 : decode cX10_spans 18 = .ok (.invokestatic 123, 3) := by decide +kernel
theorem dX10_spans_21 : decode cX10_spans 21 = .ok (.iadd, 1) := by decide +kernel
theorem dX10_spans_22 : decode cX10_spans 22 = .ok (.istore_n 1, 1) := by decide +kernel
theorem dX10_spans_23 : decode cX10_spans 23 = .ok (.iinc 2 1, 3) := by decide +kernel
theorem dX10_spans_26 : decode cX10_spans 26 = .ok (.goto (-22), 3) := by decide +kernel
theorem dX10_spans_29 : decode cX10_spans 29 = .ok (.iload_n 1, 1) := by decide +kernel
theorem dX10_spans_30 : decode cX10_spans 30 = .ok (.ireturn, 1) := by decide +kernel
theorem dX10_outGates_0 : decode cX10_outGates 0 = .ok (.aload_n 0, 1) := by decide +kernel
theorem dX10_outGates_1 : decode cX10_outGates 1 = .ok (.iload_n 1, 1) := by decide +kernel
theorem dX10_outGates_2 : decode cX10_outGates 2 = .ok (.invokevirtual 276, 3) := by decide +kernel
theorem dX10_outGates_5 : decode cX10_outGates 5 = .ok (.aload_n 0, 1) := by decide +kernel
theorem dX10_outGates_6 : decode cX10_outGates 6 = .ok (.iload_n 1, 1) := by decide +kernel
theorem dX10_outGates_7 : decode cX10_outGates 7 = .ok (.invokevirtual 294, 3) := by decide +kernel
theorem dX10_outGates_10 : decode cX10_outGates 10 = .ok (.iand, 1) := by decide +kernel
theorem dX10_outGates_11 : decode cX10_outGates 11 = .ok (.ireturn, 1) := by decide +kernel
theorem dX10_rings_0 : decode cX10_rings 0 = .ok (.iconst 0, 1) := by decide +kernel
theorem dX10_rings_1 : decode cX10_rings 1 = .ok (.istore_n 1, 1) := by decide +kernel
theorem dX10_rings_2 : decode cX10_rings 2 = .ok (.iconst 0, 1) := by decide +kernel
theorem dX10_rings_3 : decode cX10_rings 3 = .ok (.istore_n 2, 1) := by decide +kernel
theorem dX10_rings_4 : decode cX10_rings 4 = .ok (.iload_n 2, 1) := by decide +kernel
theorem dX10_rings_5 : decode cX10_rings 5 = .ok (.aload_n 0, 1) := by decide +kernel
theorem dX10_rings_6 : decode cX10_rings 6 = .ok (.invokevirtual 80, 3) := by decide +kernel
theorem dX10_rings_9 : decode cX10_rings 9 = .ok (.if_icmp .ge 42, 3) := by decide +kernel
theorem dX10_rings_12 : decode cX10_rings 12 = .ok (.iload_n 1, 1) := by decide +kernel
theorem dX10_rings_13 : decode cX10_rings 13 = .ok (.aload_n 0, 1) := by decide +kernel
theorem dX10_rings_14 : decode cX10_rings 14 = .ok (.getfield 120, 3) := by decide +kernel
theorem dX10_rings_17 : decode cX10_rings 17 = .ok (.iload_n 2, 1) := by decide +kernel
theorem dX10_rings_18 : decode cX10_rings 18 = .ok (.invokestatic 99, 3) := by decide +kernel
theorem dX10_rings_21 : decode cX10_rings 21 = .ok (.ifCond .eq 21, 3) := by decide +kernel
theorem dX10_rings_24 : decode cX10_rings 24 = .ok (.aload_n 0, 1) := by decide +kernel
theorem dX10_rings_25 : decode cX10_rings 25 = .ok (.iload_n 2, 1) := by decide +kernel
theorem dX10_rings_26 : decode cX10_rings 26 = .ok (.invokevirtual 339, 3) := by decide +kernel
theorem dX10_rings_29 : decode cX10_rings 29 = .ok (.iconst 1, 1) := by decide +kernel
theorem dX10_rings_30 : decode cX10_rings 30 = .ok (.iload_n 2, 1) := by decide +kernel
theorem dX10_rings_31 : decode cX10_rings 31 = .ok (.ishl, 1) := by decide +kernel
theorem dX10_rings_32 : decode cX10_rings 32 = .ok (.iconst 1, 1) := by decide +kernel
theorem dX10_rings_33 : decode cX10_rings 33 = .ok (.isub, 1) := by decide +kernel
theorem dX10_rings_34 : decode cX10_rings 34 = .ok (.iand, 1) := by decide +kernel
theorem dX10_rings_35 : decode cX10_rings 35 = .ok (.ifCond .ne 7, 3) := by decide +kernel
theorem dX10_rings_38 : decode cX10_rings 38 = .ok (.iconst 1, 1) := by decide +kernel
theorem dX10_rings_39 : decode cX10_rings 39 = .ok (.goto 4, 3) := by decide +kernel
theorem dX10_rings_42 : decode cX10_rings 42 = .ok (.iconst 0, 1) := by decide +kernel
theorem dX10_rings_43 : decode cX10_rings 43 = .ok (.iadd, 1) := by decide +kernel
theorem dX10_rings_44 : decode cX10_rings 44 = .ok (.istore_n 1, 1) := by decide +kernel
theorem dX10_rings_45 : decode cX10_rings 45 = .ok (.iinc 2 1, 3) := by decide +kernel
theorem dX10_rings_48 : decode cX10_rings 48 = .ok (.goto (-44), 3) := by decide +kernel
theorem dX10_rings_51 : decode cX10_rings 51 = .ok (.iload_n 1, 1) := by decide +kernel
theorem dX10_rings_52 : decode cX10_rings 52 = .ok (.ireturn, 1) := by decide +kernel
theorem dX10_tolls_0 : decode cX10_tolls 0 = .ok (.iconst 0, 1) := by decide +kernel
theorem dX10_tolls_1 : decode cX10_tolls 1 = .ok (.istore_n 1, 1) := by decide +kernel
theorem dX10_tolls_2 : decode cX10_tolls 2 = .ok (.iconst 0, 1) := by decide +kernel
theorem dX10_tolls_3 : decode cX10_tolls 3 = .ok (.istore_n 2, 1) := by decide +kernel
theorem dX10_tolls_4 : decode cX10_tolls 4 = .ok (.iload_n 2, 1) := by decide +kernel
theorem dX10_tolls_5 : decode cX10_tolls 5 = .ok (.aload_n 0, 1) := by decide +kernel
theorem dX10_tolls_6 : decode cX10_tolls 6 = .ok (.invokevirtual 80, 3) := by decide +kernel
theorem dX10_tolls_9 : decode cX10_tolls 9 = .ok (.if_icmp .ge 35, 3) := by decide +kernel
theorem dX10_tolls_12 : decode cX10_tolls 12 = .ok (.iload_n 1, 1) := by decide +kernel
theorem dX10_tolls_13 : decode cX10_tolls 13 = .ok (.aload_n 0, 1) := by decide +kernel
theorem dX10_tolls_14 : decode cX10_tolls 14 = .ok (.getfield 120, 3) := by decide +kernel
theorem dX10_tolls_17 : decode cX10_tolls 17 = .ok (.iload_n 2, 1) := by decide +kernel
theorem dX10_tolls_18 : decode cX10_tolls 18 = .ok (.invokestatic 99, 3) := by decide +kernel
theorem dX10_tolls_21 : decode cX10_tolls 21 = .ok (.ifCond .eq 14, 3) := by decide +kernel
theorem dX10_tolls_24 : decode cX10_tolls 24 = .ok (.aload_n 0, 1) := by decide +kernel
theorem dX10_tolls_25 : decode cX10_tolls 25 = .ok (.getfield 13, 3) := by decide +kernel
theorem dX10_tolls_28 : decode cX10_tolls 28 = .ok (.iconst 4, 1) := by decide +kernel
theorem dX10_tolls_29 : decode cX10_tolls 29 = .ok (.iload_n 2, 1) := by decide +kernel
theorem dX10_tolls_30 : decode cX10_tolls 30 = .ok (.iadd, 1) := by decide +kernel
theorem dX10_tolls_31 : decode cX10_tolls 31 = .ok (.iaload, 1) := by decide +kernel
theorem dX10_tolls_32 : decode cX10_tolls 32 = .ok (.goto 4, 3) := by decide +kernel
theorem dX10_tolls_35 : decode cX10_tolls 35 = .ok (.iconst 0, 1) := by decide +kernel
theorem dX10_tolls_36 : decode cX10_tolls 36 = .ok (.iadd, 1) := by decide +kernel
theorem dX10_tolls_37 : decode cX10_tolls 37 = .ok (.istore_n 1, 1) := by decide +kernel
theorem dX10_tolls_38 : decode cX10_tolls 38 = .ok (.iinc 2 1, 3) := by decide +kernel
theorem dX10_tolls_41 : decode cX10_tolls 41 = .ok (.goto (-37), 3) := by decide +kernel
theorem dX10_tolls_44 : decode cX10_tolls 44 = .ok (.iload_n 1, 1) := by decide +kernel
theorem dX10_tolls_45 : decode cX10_tolls 45 = .ok (.ireturn, 1) := by decide +kernel
theorem dX10_count_0 : decode cX10_count 0 = .ok (.aload_n 0, 1) := by decide +kernel
theorem dX10_count_1 : decode cX10_count 1 = .ok (.iconst 0, 1) := by decide +kernel
theorem dX10_count_2 : decode cX10_count 2 = .ok (.putfield 1, 3) := by decide +kernel
theorem dX10_count_5 : decode cX10_count 5 = .ok (.aload_n 0, 1) := by decide +kernel
theorem dX10_count_6 : decode cX10_count 6 = .ok (.invokevirtual 126, 3) := by decide +kernel
theorem dX10_count_9 : decode cX10_count 9 = .ok (.iload_n 1, 1) := by decide +kernel
theorem dX10_count_10 : decode cX10_count 10 = .ok (.tableswitch 199 0 18 #[90, 95, 100, 107, 112, 117, 122, 128, 133, 139, 145, 158, 164, 169, 174, 179, 184, 189, 194], 90) := by decide +kernel
theorem dX10_count_100 : decode cX10_count 100 = .ok (.aload_n 0, 1) := by decide +kernel
theorem dX10_count_101 : decode cX10_count 101 = .ok (.invokevirtual 80, 3) := by decide +kernel
theorem dX10_count_104 : decode cX10_count 104 = .ok (.ireturn, 1) := by decide +kernel
theorem dX10_count_105 : decode cX10_count 105 = .ok (.aload_n 0, 1) := by decide +kernel
theorem dX10_count_106 : decode cX10_count 106 = .ok (.invokevirtual 109, 3) := by decide +kernel
theorem dX10_count_109 : decode cX10_count 109 = .ok (.ireturn, 1) := by decide +kernel
theorem dX10_count_110 : decode cX10_count 110 = .ok (.aload_n 0, 1) := by decide +kernel
theorem dX10_count_111 : decode cX10_count 111 = .ok (.getfield 13, 3) := by decide +kernel
theorem dX10_count_114 : decode cX10_count 114 = .ok (.iconst 2, 1) := by decide +kernel
theorem dX10_count_115 : decode cX10_count 115 = .ok (.iaload, 1) := by decide +kernel
theorem dX10_count_116 : decode cX10_count 116 = .ok (.ireturn, 1) := by decide +kernel
theorem dX10_count_117 : decode cX10_count 117 = .ok (.aload_n 0, 1) := by decide +kernel
theorem dX10_count_118 : decode cX10_count 118 = .ok (.invokevirtual 88, 3) := by decide +kernel
theorem dX10_count_121 : decode cX10_count 121 = .ok (.ireturn, 1) := by decide +kernel
theorem dX10_count_122 : decode cX10_count 122 = .ok (.aload_n 0, 1) := by decide +kernel
theorem dX10_count_123 : decode cX10_count 123 = .ok (.invokevirtual 399, 3) := by decide +kernel
theorem dX10_count_126 : decode cX10_count 126 = .ok (.ireturn, 1) := by decide +kernel
theorem dX10_count_127 : decode cX10_count 127 = .ok (.aload_n 0, 1) := by decide +kernel
theorem dX10_count_128 : decode cX10_count 128 = .ok (.getfield 120, 3) := by decide +kernel
theorem dX10_count_131 : decode cX10_count 131 = .ok (.ireturn, 1) := by decide +kernel
theorem dX10_count_132 : decode cX10_count 132 = .ok (.aload_n 0, 1) := by decide +kernel
theorem dX10_count_133 : decode cX10_count 133 = .ok (.iconst 0, 1) := by decide +kernel
theorem dX10_count_134 : decode cX10_count 134 = .ok (.invokevirtual 402, 3) := by decide +kernel
theorem dX10_count_137 : decode cX10_count 137 = .ok (.ireturn, 1) := by decide +kernel
theorem dX10_count_138 : decode cX10_count 138 = .ok (.aload_n 0, 1) := by decide +kernel
theorem dX10_count_139 : decode cX10_count 139 = .ok (.invokevirtual 406, 3) := by decide +kernel
theorem dX10_count_142 : decode cX10_count 142 = .ok (.ireturn, 1) := by decide +kernel
theorem dX10_count_143 : decode cX10_count 143 = .ok (.aload_n 0, 1) := by decide +kernel
theorem dX10_count_144 : decode cX10_count 144 = .ok (.iconst 1, 1) := by decide +kernel
theorem dX10_count_145 : decode cX10_count 145 = .ok (.invokevirtual 409, 3) := by decide +kernel
theorem dX10_count_148 : decode cX10_count 148 = .ok (.ireturn, 1) := by decide +kernel
theorem dX10_count_149 : decode cX10_count 149 = .ok (.aload_n 0, 1) := by decide +kernel
theorem dX10_count_150 : decode cX10_count 150 = .ok (.iconst 0, 1) := by decide +kernel
theorem dX10_count_151 : decode cX10_count 151 = .ok (.invokevirtual 409, 3) := by decide +kernel
theorem dX10_count_154 : decode cX10_count 154 = .ok (.ireturn, 1) := by decide +kernel
theorem dX10_count_155 : decode cX10_count 155 = .ok (.aload_n 0, 1) := by decide +kernel
theorem dX10_count_156 : decode cX10_count 156 = .ok (.invokevirtual 412, 3) := by decide +kernel
theorem dX10_count_159 : decode cX10_count 159 = .ok (.ifCond .eq 7, 3) := by decide +kernel
theorem dX10_count_162 : decode cX10_count 162 = .ok (.iconst 1, 1) := by decide +kernel
theorem dX10_count_163 : decode cX10_count 163 = .ok (.goto 4, 3) := by decide +kernel
theorem dX10_count_166 : decode cX10_count 166 = .ok (.iconst 0, 1) := by decide +kernel
theorem dX10_count_167 : decode cX10_count 167 = .ok (.ireturn, 1) := by decide +kernel
theorem dX10_count_168 : decode cX10_count 168 = .ok (.aload_n 0, 1) := by decide +kernel
theorem dX10_count_169 : decode cX10_count 169 = .ok (.iconst 1, 1) := by decide +kernel
theorem dX10_count_170 : decode cX10_count 170 = .ok (.invokevirtual 402, 3) := by decide +kernel
theorem dX10_count_173 : decode cX10_count 173 = .ok (.ireturn, 1) := by decide +kernel
theorem dX10_count_174 : decode cX10_count 174 = .ok (.aload_n 0, 1) := by decide +kernel
theorem dX10_count_175 : decode cX10_count 175 = .ok (.invokevirtual 415, 3) := by decide +kernel
theorem dX10_count_178 : decode cX10_count 178 = .ok (.ireturn, 1) := by decide +kernel
theorem dX10_count_179 : decode cX10_count 179 = .ok (.aload_n 0, 1) := by decide +kernel
theorem dX10_count_180 : decode cX10_count 180 = .ok (.invokevirtual 418, 3) := by decide +kernel
theorem dX10_count_183 : decode cX10_count 183 = .ok (.ireturn, 1) := by decide +kernel
theorem dX10_count_184 : decode cX10_count 184 = .ok (.aload_n 0, 1) := by decide +kernel
theorem dX10_count_185 : decode cX10_count 185 = .ok (.getfield 144, 3) := by decide +kernel
theorem dX10_count_188 : decode cX10_count 188 = .ok (.ireturn, 1) := by decide +kernel
theorem dX10_count_189 : decode cX10_count 189 = .ok (.aload_n 0, 1) := by decide +kernel
theorem dX10_count_190 : decode cX10_count 190 = .ok (.invokevirtual 421, 3) := by decide +kernel
theorem dX10_count_193 : decode cX10_count 193 = .ok (.ireturn, 1) := by decide +kernel
theorem dX10_count_194 : decode cX10_count 194 = .ok (.aload_n 0, 1) := by decide +kernel
theorem dX10_count_195 : decode cX10_count 195 = .ok (.invokevirtual 424, 3) := by decide +kernel
theorem dX10_count_198 : decode cX10_count 198 = .ok (.ireturn, 1) := by decide +kernel
theorem dX10_count_199 : decode cX10_count 199 = .ok (.aload_n 0, 1) := by decide +kernel
theorem dX10_count_200 : decode cX10_count 200 = .ok (.invokevirtual 427, 3) := by decide +kernel
theorem dX10_count_203 : decode cX10_count 203 = .ok (.ireturn, 1) := by decide +kernel
theorem dX10_count_204 : decode cX10_count 204 = .ok (.aload_n 0, 1) := by decide +kernel
theorem dX10_count_205 : decode cX10_count 205 = .ok (.invokevirtual 430, 3) := by decide +kernel
theorem dX10_count_208 : decode cX10_count 208 = .ok (.ireturn, 1) := by decide +kernel
theorem dX10_count_209 : decode cX10_count 209 = .ok (.iconst (-1), 1) := by decide +kernel
theorem dX10_count_210 : decode cX10_count 210 = .ok (.ireturn, 1) := by decide +kernel
theorem dJ6_bitCount_0f7a4_0 : decode cJ6_bitCount_0f7a4 0 = .ok (.iload_n 0, 1) := by decide +kernel
theorem dJ6_bitCount_0f7a4_1 : decode cJ6_bitCount_0f7a4 1 = .ok (.iload_n 0, 1) := by decide +kernel
theorem dJ6_bitCount_0f7a4_2 : decode cJ6_bitCount_0f7a4 2 = .ok (.iconst 1, 1) := by decide +kernel
theorem dJ6_bitCount_0f7a4_3 : decode cJ6_bitCount_0f7a4 3 = .ok (.iushr, 1) := by decide +kernel
theorem dJ6_bitCount_0f7a4_4 : decode cJ6_bitCount_0f7a4 4 = .ok (.ldc_w 265, 3) := by decide +kernel
theorem dJ6_bitCount_0f7a4_7 : decode cJ6_bitCount_0f7a4 7 = .ok (.iand, 1) := by decide +kernel
theorem dJ6_bitCount_0f7a4_8 : decode cJ6_bitCount_0f7a4 8 = .ok (.isub, 1) := by decide +kernel
theorem dJ6_bitCount_0f7a4_9 : decode cJ6_bitCount_0f7a4 9 = .ok (.istore_n 0, 1) := by decide +kernel
theorem dJ6_bitCount_0f7a4_10 : decode cJ6_bitCount_0f7a4 10 = .ok (.iload_n 0, 1) := by decide +kernel
theorem dJ6_bitCount_0f7a4_11 : decode cJ6_bitCount_0f7a4 11 = .ok (.ldc_w 266, 3) := by decide +kernel
theorem dJ6_bitCount_0f7a4_14 : decode cJ6_bitCount_0f7a4 14 = .ok (.iand, 1) := by decide +kernel
theorem dJ6_bitCount_0f7a4_15 : decode cJ6_bitCount_0f7a4 15 = .ok (.iload_n 0, 1) := by decide +kernel
theorem dJ6_bitCount_0f7a4_16 : decode cJ6_bitCount_0f7a4 16 = .ok (.iconst 2, 1) := by decide +kernel
theorem dJ6_bitCount_0f7a4_17 : decode cJ6_bitCount_0f7a4 17 = .ok (.iushr, 1) := by decide +kernel
theorem dJ6_bitCount_0f7a4_18 : decode cJ6_bitCount_0f7a4 18 = .ok (.ldc_w 266, 3) := by decide +kernel
theorem dJ6_bitCount_0f7a4_21 : decode cJ6_bitCount_0f7a4 21 = .ok (.iand, 1) := by decide +kernel
theorem dJ6_bitCount_0f7a4_22 : decode cJ6_bitCount_0f7a4 22 = .ok (.iadd, 1) := by decide +kernel
theorem dJ6_bitCount_0f7a4_23 : decode cJ6_bitCount_0f7a4 23 = .ok (.istore_n 0, 1) := by decide +kernel
theorem dJ6_bitCount_0f7a4_24 : decode cJ6_bitCount_0f7a4 24 = .ok (.iload_n 0, 1) := by decide +kernel
theorem dJ6_bitCount_0f7a4_25 : decode cJ6_bitCount_0f7a4 25 = .ok (.iload_n 0, 1) := by decide +kernel
theorem dJ6_bitCount_0f7a4_26 : decode cJ6_bitCount_0f7a4 26 = .ok (.iconst 4, 1) := by decide +kernel
theorem dJ6_bitCount_0f7a4_27 : decode cJ6_bitCount_0f7a4 27 = .ok (.iushr, 1) := by decide +kernel
theorem dJ6_bitCount_0f7a4_28 : decode cJ6_bitCount_0f7a4 28 = .ok (.iadd, 1) := by decide +kernel
theorem dJ6_bitCount_0f7a4_29 : decode cJ6_bitCount_0f7a4 29 = .ok (.ldc_w 267, 3) := by decide +kernel
theorem dJ6_bitCount_0f7a4_32 : decode cJ6_bitCount_0f7a4 32 = .ok (.iand, 1) := by decide +kernel
theorem dJ6_bitCount_0f7a4_33 : decode cJ6_bitCount_0f7a4 33 = .ok (.istore_n 0, 1) := by decide +kernel
theorem dJ6_bitCount_0f7a4_34 : decode cJ6_bitCount_0f7a4 34 = .ok (.iload_n 0, 1) := by decide +kernel
theorem dJ6_bitCount_0f7a4_35 : decode cJ6_bitCount_0f7a4 35 = .ok (.iload_n 0, 1) := by decide +kernel
theorem dJ6_bitCount_0f7a4_36 : decode cJ6_bitCount_0f7a4 36 = .ok (.bipush 8, 2) := by decide +kernel
theorem dJ6_bitCount_0f7a4_38 : decode cJ6_bitCount_0f7a4 38 = .ok (.iushr, 1) := by decide +kernel
theorem dJ6_bitCount_0f7a4_39 : decode cJ6_bitCount_0f7a4 39 = .ok (.iadd, 1) := by decide +kernel
theorem dJ6_bitCount_0f7a4_40 : decode cJ6_bitCount_0f7a4 40 = .ok (.istore_n 0, 1) := by decide +kernel
theorem dJ6_bitCount_0f7a4_41 : decode cJ6_bitCount_0f7a4 41 = .ok (.iload_n 0, 1) := by decide +kernel
theorem dJ6_bitCount_0f7a4_42 : decode cJ6_bitCount_0f7a4 42 = .ok (.iload_n 0, 1) := by decide +kernel
theorem dJ6_bitCount_0f7a4_43 : decode cJ6_bitCount_0f7a4 43 = .ok (.bipush 16, 2) := by decide +kernel
theorem dJ6_bitCount_0f7a4_45 : decode cJ6_bitCount_0f7a4 45 = .ok (.iushr, 1) := by decide +kernel
theorem dJ6_bitCount_0f7a4_46 : decode cJ6_bitCount_0f7a4 46 = .ok (.iadd, 1) := by decide +kernel
theorem dJ6_bitCount_0f7a4_47 : decode cJ6_bitCount_0f7a4 47 = .ok (.istore_n 0, 1) := by decide +kernel
theorem dJ6_bitCount_0f7a4_48 : decode cJ6_bitCount_0f7a4 48 = .ok (.iload_n 0, 1) := by decide +kernel
theorem dJ6_bitCount_0f7a4_49 : decode cJ6_bitCount_0f7a4 49 = .ok (.bipush 63, 2) := by decide +kernel
theorem dJ6_bitCount_0f7a4_51 : decode cJ6_bitCount_0f7a4 51 = .ok (.iand, 1) := by decide +kernel
theorem dJ6_bitCount_0f7a4_52 : decode cJ6_bitCount_0f7a4 52 = .ok (.ireturn, 1) := by decide +kernel
theorem dJ13_bitCount_95d88_0 : decode cJ13_bitCount_95d88 0 = .ok (.lload_n 0, 1) := by decide +kernel
theorem dJ13_bitCount_95d88_1 : decode cJ13_bitCount_95d88 1 = .ok (.lload_n 0, 1) := by decide +kernel
theorem dJ13_bitCount_95d88_2 : decode cJ13_bitCount_95d88 2 = .ok (.iconst 1, 1) := by decide +kernel
theorem dJ13_bitCount_95d88_3 : decode cJ13_bitCount_95d88 3 = .ok (.lushr, 1) := by decide +kernel
theorem dJ13_bitCount_95d88_4 : decode cJ13_bitCount_95d88 4 = .ok (.ldc2_w 314, 3) := by decide +kernel
theorem dJ13_bitCount_95d88_7 : decode cJ13_bitCount_95d88 7 = .ok (.land, 1) := by decide +kernel
theorem dJ13_bitCount_95d88_8 : decode cJ13_bitCount_95d88 8 = .ok (.lsub, 1) := by decide +kernel
theorem dJ13_bitCount_95d88_9 : decode cJ13_bitCount_95d88 9 = .ok (.lstore_n 0, 1) := by decide +kernel
theorem dJ13_bitCount_95d88_10 : decode cJ13_bitCount_95d88 10 = .ok (.lload_n 0, 1) := by decide +kernel
theorem dJ13_bitCount_95d88_11 : decode cJ13_bitCount_95d88 11 = .ok (.ldc2_w 316, 3) := by decide +kernel
theorem dJ13_bitCount_95d88_14 : decode cJ13_bitCount_95d88 14 = .ok (.land, 1) := by decide +kernel
theorem dJ13_bitCount_95d88_15 : decode cJ13_bitCount_95d88 15 = .ok (.lload_n 0, 1) := by decide +kernel
theorem dJ13_bitCount_95d88_16 : decode cJ13_bitCount_95d88 16 = .ok (.iconst 2, 1) := by decide +kernel
theorem dJ13_bitCount_95d88_17 : decode cJ13_bitCount_95d88 17 = .ok (.lushr, 1) := by decide +kernel
theorem dJ13_bitCount_95d88_18 : decode cJ13_bitCount_95d88 18 = .ok (.ldc2_w 316, 3) := by decide +kernel
theorem dJ13_bitCount_95d88_21 : decode cJ13_bitCount_95d88 21 = .ok (.land, 1) := by decide +kernel
theorem dJ13_bitCount_95d88_22 : decode cJ13_bitCount_95d88 22 = .ok (.ladd, 1) := by decide +kernel
theorem dJ13_bitCount_95d88_23 : decode cJ13_bitCount_95d88 23 = .ok (.lstore_n 0, 1) := by decide +kernel
theorem dJ13_bitCount_95d88_24 : decode cJ13_bitCount_95d88 24 = .ok (.lload_n 0, 1) := by decide +kernel
theorem dJ13_bitCount_95d88_25 : decode cJ13_bitCount_95d88 25 = .ok (.lload_n 0, 1) := by decide +kernel
theorem dJ13_bitCount_95d88_26 : decode cJ13_bitCount_95d88 26 = .ok (.iconst 4, 1) := by decide +kernel
theorem dJ13_bitCount_95d88_27 : decode cJ13_bitCount_95d88 27 = .ok (.lushr, 1) := by decide +kernel
theorem dJ13_bitCount_95d88_28 : decode cJ13_bitCount_95d88 28 = .ok (.ladd, 1) := by decide +kernel
theorem dJ13_bitCount_95d88_29 : decode cJ13_bitCount_95d88 29 = .ok (.ldc2_w 318, 3) := by decide +kernel
theorem dJ13_bitCount_95d88_32 : decode cJ13_bitCount_95d88 32 = .ok (.land, 1) := by decide +kernel
theorem dJ13_bitCount_95d88_33 : decode cJ13_bitCount_95d88 33 = .ok (.lstore_n 0, 1) := by decide +kernel
theorem dJ13_bitCount_95d88_34 : decode cJ13_bitCount_95d88 34 = .ok (.lload_n 0, 1) := by decide +kernel
theorem dJ13_bitCount_95d88_35 : decode cJ13_bitCount_95d88 35 = .ok (.lload_n 0, 1) := by decide +kernel
theorem dJ13_bitCount_95d88_36 : decode cJ13_bitCount_95d88 36 = .ok (.bipush 8, 2) := by decide +kernel
theorem dJ13_bitCount_95d88_38 : decode cJ13_bitCount_95d88 38 = .ok (.lushr, 1) := by decide +kernel
theorem dJ13_bitCount_95d88_39 : decode cJ13_bitCount_95d88 39 = .ok (.ladd, 1) := by decide +kernel
theorem dJ13_bitCount_95d88_40 : decode cJ13_bitCount_95d88 40 = .ok (.lstore_n 0, 1) := by decide +kernel
theorem dJ13_bitCount_95d88_41 : decode cJ13_bitCount_95d88 41 = .ok (.lload_n 0, 1) := by decide +kernel
theorem dJ13_bitCount_95d88_42 : decode cJ13_bitCount_95d88 42 = .ok (.lload_n 0, 1) := by decide +kernel
theorem dJ13_bitCount_95d88_43 : decode cJ13_bitCount_95d88 43 = .ok (.bipush 16, 2) := by decide +kernel
theorem dJ13_bitCount_95d88_45 : decode cJ13_bitCount_95d88 45 = .ok (.lushr, 1) := by decide +kernel
theorem dJ13_bitCount_95d88_46 : decode cJ13_bitCount_95d88 46 = .ok (.ladd, 1) := by decide +kernel
theorem dJ13_bitCount_95d88_47 : decode cJ13_bitCount_95d88 47 = .ok (.lstore_n 0, 1) := by decide +kernel
theorem dJ13_bitCount_95d88_48 : decode cJ13_bitCount_95d88 48 = .ok (.lload_n 0, 1) := by decide +kernel
theorem dJ13_bitCount_95d88_49 : decode cJ13_bitCount_95d88 49 = .ok (.lload_n 0, 1) := by decide +kernel
theorem dJ13_bitCount_95d88_50 : decode cJ13_bitCount_95d88 50 = .ok (.bipush 32, 2) := by decide +kernel
theorem dJ13_bitCount_95d88_52 : decode cJ13_bitCount_95d88 52 = .ok (.lushr, 1) := by decide +kernel
theorem dJ13_bitCount_95d88_53 : decode cJ13_bitCount_95d88 53 = .ok (.ladd, 1) := by decide +kernel
theorem dJ13_bitCount_95d88_54 : decode cJ13_bitCount_95d88 54 = .ok (.lstore_n 0, 1) := by decide +kernel
theorem dJ13_bitCount_95d88_55 : decode cJ13_bitCount_95d88 55 = .ok (.lload_n 0, 1) := by decide +kernel
theorem dJ13_bitCount_95d88_56 : decode cJ13_bitCount_95d88 56 = .ok (.l2i, 1) := by decide +kernel
theorem dJ13_bitCount_95d88_57 : decode cJ13_bitCount_95d88 57 = .ok (.bipush 127, 2) := by decide +kernel
theorem dJ13_bitCount_95d88_59 : decode cJ13_bitCount_95d88 59 = .ok (.iand, 1) := by decide +kernel
theorem dJ13_bitCount_95d88_60 : decode cJ13_bitCount_95d88 60 = .ok (.ireturn, 1) := by decide +kernel
theorem dJ9_max_7cf53_0 : decode cJ9_max_7cf53 0 = .ok (.iload_n 0, 1) := by decide +kernel
theorem dJ9_max_7cf53_1 : decode cJ9_max_7cf53 1 = .ok (.iload_n 1, 1) := by decide +kernel
theorem dJ9_max_7cf53_2 : decode cJ9_max_7cf53 2 = .ok (.if_icmp .lt 7, 3) := by decide +kernel
theorem dJ9_max_7cf53_5 : decode cJ9_max_7cf53 5 = .ok (.iload_n 0, 1) := by decide +kernel
theorem dJ9_max_7cf53_6 : decode cJ9_max_7cf53 6 = .ok (.goto 4, 3) := by decide +kernel
theorem dJ9_max_7cf53_9 : decode cJ9_max_7cf53 9 = .ok (.iload_n 1, 1) := by decide +kernel
theorem dJ9_max_7cf53_10 : decode cJ9_max_7cf53 10 = .ok (.ireturn, 1) := by decide +kernel
theorem dJ9_min_7cf53_0 : decode cJ9_min_7cf53 0 = .ok (.iload_n 0, 1) := by decide +kernel
theorem dJ9_min_7cf53_1 : decode cJ9_min_7cf53 1 = .ok (.iload_n 1, 1) := by decide +kernel
theorem dJ9_min_7cf53_2 : decode cJ9_min_7cf53 2 = .ok (.if_icmp .gt 7, 3) := by decide +kernel
theorem dJ9_min_7cf53_5 : decode cJ9_min_7cf53 5 = .ok (.iload_n 0, 1) := by decide +kernel
theorem dJ9_min_7cf53_6 : decode cJ9_min_7cf53 6 = .ok (.goto 4, 3) := by decide +kernel
theorem dJ9_min_7cf53_9 : decode cJ9_min_7cf53 9 = .ok (.iload_n 1, 1) := by decide +kernel
theorem dJ9_min_7cf53_10 : decode cJ9_min_7cf53 10 = .ok (.ireturn, 1) := by decide +kernel
theorem dJ0_length_8abf5_0 : decode cJ0_length_8abf5 0 = .ok (.aload_n 0, 1) := by decide +kernel
theorem dJ0_length_8abf5_1 : decode cJ0_length_8abf5 1 = .ok (.getfield 9, 3) := by decide +kernel
theorem dJ0_length_8abf5_4 : decode cJ0_length_8abf5 4 = .ok (.arraylength, 1) := by decide +kernel
theorem dJ0_length_8abf5_5 : decode cJ0_length_8abf5 5 = .ok (.aload_n 0, 1) := by decide +kernel
theorem dJ0_length_8abf5_6 : decode cJ0_length_8abf5 6 = .ok (.invokevirtual 335, 3) := by decide +kernel
theorem dJ0_length_8abf5_9 : decode cJ0_length_8abf5 9 = .ok (.ishr, 1) := by decide +kernel
theorem dJ0_length_8abf5_10 : decode cJ0_length_8abf5 10 = .ok (.ireturn, 1) := by decide +kernel
theorem dJ0_charAt_5068e_0 : decode cJ0_charAt_5068e 0 = .ok (.aload_n 0, 1) := by decide +kernel
theorem dJ0_charAt_5068e_1 : decode cJ0_charAt_5068e 1 = .ok (.invokevirtual 492, 3) := by decide +kernel
theorem dJ0_charAt_5068e_4 : decode cJ0_charAt_5068e 4 = .ok (.ifCond .eq 12, 3) := by decide +kernel
theorem dJ0_charAt_5068e_7 : decode cJ0_charAt_5068e 7 = .ok (.aload_n 0, 1) := by decide +kernel
theorem dJ0_charAt_5068e_8 : decode cJ0_charAt_5068e 8 = .ok (.getfield 9, 3) := by decide +kernel
theorem dJ0_charAt_5068e_11 : decode cJ0_charAt_5068e 11 = .ok (.iload_n 1, 1) := by decide +kernel
theorem dJ0_charAt_5068e_12 : decode cJ0_charAt_5068e 12 = .ok (.invokestatic 495, 3) := by decide +kernel
theorem dJ0_charAt_5068e_15 : decode cJ0_charAt_5068e 15 = .ok (.ireturn, 1) := by decide +kernel
theorem dJ0_charAt_5068e_16 : decode cJ0_charAt_5068e 16 = .ok (.aload_n 0, 1) := by decide +kernel
theorem dJ0_charAt_5068e_17 : decode cJ0_charAt_5068e 17 = .ok (.getfield 9, 3) := by decide +kernel
theorem dJ0_charAt_5068e_20 : decode cJ0_charAt_5068e 20 = .ok (.iload_n 1, 1) := by decide +kernel
theorem dJ0_charAt_5068e_21 : decode cJ0_charAt_5068e 21 = .ok (.invokestatic 498, 3) := by decide +kernel
theorem dJ0_charAt_5068e_24 : decode cJ0_charAt_5068e 24 = .ok (.ireturn, 1) := by decide +kernel
theorem dJ0_coder_7d493_0 : decode cJ0_coder_7d493 0 = .ok (.getstatic 38, 3) := by decide +kernel
theorem dJ0_coder_7d493_3 : decode cJ0_coder_7d493 3 = .ok (.ifCond .eq 10, 3) := by decide +kernel
theorem dJ0_coder_7d493_6 : decode cJ0_coder_7d493 6 = .ok (.aload_n 0, 1) := by decide +kernel
theorem dJ0_coder_7d493_7 : decode cJ0_coder_7d493 7 = .ok (.getfield 15, 3) := by decide +kernel
theorem dJ0_coder_7d493_10 : decode cJ0_coder_7d493 10 = .ok (.goto 4, 3) := by decide +kernel
theorem dJ0_coder_7d493_13 : decode cJ0_coder_7d493 13 = .ok (.iconst 1, 1) := by decide +kernel
theorem dJ0_coder_7d493_14 : decode cJ0_coder_7d493 14 = .ok (.ireturn, 1) := by decide +kernel
theorem dJ0_isLatin1_aae02_0 : decode cJ0_isLatin1_aae02 0 = .ok (.getstatic 38, 3) := by decide +kernel
theorem dJ0_isLatin1_aae02_3 : decode cJ0_isLatin1_aae02 3 = .ok (.ifCond .eq 14, 3) := by decide +kernel
theorem dJ0_isLatin1_aae02_6 : decode cJ0_isLatin1_aae02 6 = .ok (.aload_n 0, 1) := by decide +kernel
theorem dJ0_isLatin1_aae02_7 : decode cJ0_isLatin1_aae02 7 = .ok (.getfield 15, 3) := by decide +kernel
theorem dJ0_isLatin1_aae02_10 : decode cJ0_isLatin1_aae02 10 = .ok (.ifCond .ne 7, 3) := by decide +kernel
theorem dJ0_isLatin1_aae02_13 : decode cJ0_isLatin1_aae02 13 = .ok (.iconst 1, 1) := by decide +kernel
theorem dJ0_isLatin1_aae02_14 : decode cJ0_isLatin1_aae02 14 = .ok (.goto 4, 3) := by decide +kernel
theorem dJ0_isLatin1_aae02_17 : decode cJ0_isLatin1_aae02 17 = .ok (.iconst 0, 1) := by decide +kernel
theorem dJ0_isLatin1_aae02_18 : decode cJ0_isLatin1_aae02 18 = .ok (.ireturn, 1) := by decide +kernel
theorem dJ0_checkIndex_df160_0 : decode cJ0_checkIndex_df160 0 = .ok (.iload_n 0, 1) := by decide +kernel
theorem dJ0_checkIndex_df160_1 : decode cJ0_checkIndex_df160 1 = .ok (.iload_n 1, 1) := by decide +kernel
theorem dJ0_checkIndex_df160_2 : decode cJ0_checkIndex_df160 2 = .ok (.getstatic 1053, 3) := by decide +kernel
theorem dJ0_checkIndex_df160_5 : decode cJ0_checkIndex_df160 5 = .ok (.invokestatic 1059, 3) := by decide +kernel
theorem dJ0_checkIndex_df160_8 : decode cJ0_checkIndex_df160 8 = .ok (.pop, 1) := by decide +kernel
theorem dJ0_checkIndex_df160_9 : decode cJ0_checkIndex_df160 9 = .ok (.return_, 1) := by decide +kernel
theorem dJ1_charAt_3b067_0 : decode cJ1_charAt_3b067 0 = .ok (.iload_n 1, 1) := by decide +kernel
theorem dJ1_charAt_3b067_1 : decode cJ1_charAt_3b067 1 = .ok (.aload_n 0, 1) := by decide +kernel
theorem dJ1_charAt_3b067_2 : decode cJ1_charAt_3b067 2 = .ok (.arraylength, 1) := by decide +kernel
theorem dJ1_charAt_3b067_3 : decode cJ1_charAt_3b067 3 = .ok (.invokestatic 9, 3) := by decide +kernel
theorem dJ1_charAt_3b067_6 : decode cJ1_charAt_3b067 6 = .ok (.aload_n 0, 1) := by decide +kernel
theorem dJ1_charAt_3b067_7 : decode cJ1_charAt_3b067 7 = .ok (.iload_n 1, 1) := by decide +kernel
theorem dJ1_charAt_3b067_8 : decode cJ1_charAt_3b067 8 = .ok (.baload, 1) := by decide +kernel
theorem dJ1_charAt_3b067_9 : decode cJ1_charAt_3b067 9 = .ok (.sipush 255, 3) := by decide +kernel
theorem dJ1_charAt_3b067_12 : decode cJ1_charAt_3b067 12 = .ok (.iand, 1) := by decide +kernel
theorem dJ1_charAt_3b067_13 : decode cJ1_charAt_3b067 13 = .ok (.i2c, 1) := by decide +kernel
theorem dJ1_charAt_3b067_14 : decode cJ1_charAt_3b067 14 = .ok (.ireturn, 1) := by decide +kernel
theorem dJ2_getChar_3b067_0 : decode cJ2_getChar_3b067 0 = .ok (.getstatic 44, 3) := by decide +kernel
theorem dJ2_getChar_3b067_3 : decode cJ2_getChar_3b067 3 = .ok (.ifCond .ne 25, 3) := by decide +kernel
theorem dJ2_getChar_3b067_6 : decode cJ2_getChar_3b067 6 = .ok (.iload_n 1, 1) := by decide +kernel
theorem dJ2_getChar_3b067_7 : decode cJ2_getChar_3b067 7 = .ok (.ifCond .lt 11, 3) := by decide +kernel
theorem dJ2_getChar_3b067_10 : decode cJ2_getChar_3b067 10 = .ok (.iload_n 1, 1) := by decide +kernel
theorem dJ2_getChar_3b067_11 : decode cJ2_getChar_3b067 11 = .ok (.aload_n 0, 1) := by decide +kernel
theorem dJ2_getChar_3b067_12 : decode cJ2_getChar_3b067 12 = .ok (.invokestatic 48, 3) := by decide +kernel
theorem dJ2_getChar_3b067_15 : decode cJ2_getChar_3b067 15 = .ok (.if_icmp .lt 13, 3) := by decide +kernel
theorem dJ2_getChar_3b067_18 : decode cJ2_getChar_3b067 18 = .ok (.new 52, 3) := by decide +kernel
theorem dJ2_getChar_3b067_21 : decode cJ2_getChar_3b067 21 = .ok (.dup, 1) := by decide +kernel
theorem dJ2_getChar_3b067_22 : decode cJ2_getChar_3b067 22 = .ok (.ldc 54, 2) := by decide +kernel
theorem dJ2_getChar_3b067_24 : decode cJ2_getChar_3b067 24 = .ok (.invokespecial 56, 3) := by decide +kernel
theorem dJ2_getChar_3b067_27 : decode cJ2_getChar_3b067 27 = .ok (.athrow, 1) := by decide +kernel
theorem dJ2_getChar_3b067_28 : decode cJ2_getChar_3b067 28 = .ok (.iload_n 1, 1) := by decide +kernel
theorem dJ2_getChar_3b067_29 : decode cJ2_getChar_3b067 29 = .ok (.iconst 1, 1) := by decide +kernel
theorem dJ2_getChar_3b067_30 : decode cJ2_getChar_3b067 30 = .ok (.ishl, 1) := by decide +kernel
theorem dJ2_getChar_3b067_31 : decode cJ2_getChar_3b067 31 = .ok (.istore_n 1, 1) := by decide +kernel
theorem dJ2_getChar_3b067_32 : decode cJ2_getChar_3b067 32 = .ok (.aload_n 0, 1) := by decide +kernel
theorem dJ2_getChar_3b067_33 : decode cJ2_getChar_3b067 33 = .ok (.iload_n 1, 1) := by decide +kernel
theorem dJ2_getChar_3b067_34 : decode cJ2_getChar_3b067 34 = .ok (.iinc 1 1, 3) := by decide +kernel
theorem dJ2_getChar_3b067_37 : decode cJ2_getChar_3b067 37 = .ok (.baload, 1) := by decide +kernel
theorem dJ2_getChar_3b067_38 : decode cJ2_getChar_3b067 38 = .ok (.sipush 255, 3) := by decide +kernel
theorem dJ2_getChar_3b067_41 : decode cJ2_getChar_3b067 41 = .ok (.iand, 1) := by decide +kernel
theorem dJ2_getChar_3b067_42 : decode cJ2_getChar_3b067 42 = .ok (.getstatic 59, 3) := by decide +kernel
theorem dJ2_getChar_3b067_45 : decode cJ2_getChar_3b067 45 = .ok (.ishl, 1) := by decide +kernel
theorem dJ2_getChar_3b067_46 : decode cJ2_getChar_3b067 46 = .ok (.aload_n 0, 1) := by decide +kernel
theorem dJ2_getChar_3b067_47 : decode cJ2_getChar_3b067 47 = .ok (.iload_n 1, 1) := by decide +kernel
theorem dJ2_getChar_3b067_48 : decode cJ2_getChar_3b067 48 = .ok (.baload, 1) := by decide +kernel
theorem dJ2_getChar_3b067_49 : decode cJ2_getChar_3b067 49 = .ok (.sipush 255, 3) := by decide +kernel
theorem dJ2_getChar_3b067_52 : decode cJ2_getChar_3b067 52 = .ok (.iand, 1) := by decide +kernel
theorem dJ2_getChar_3b067_53 : decode cJ2_getChar_3b067 53 = .ok (.getstatic 63, 3) := by decide +kernel
theorem dJ2_getChar_3b067_56 : decode cJ2_getChar_3b067 56 = .ok (.ishl, 1) := by decide +kernel
theorem dJ2_getChar_3b067_57 : decode cJ2_getChar_3b067 57 = .ok (.ior, 1) := by decide +kernel
theorem dJ2_getChar_3b067_58 : decode cJ2_getChar_3b067 58 = .ok (.i2c, 1) := by decide +kernel
theorem dJ2_getChar_3b067_59 : decode cJ2_getChar_3b067 59 = .ok (.ireturn, 1) := by decide +kernel
theorem dJ2_length_9d52b_0 : decode cJ2_length_9d52b 0 = .ok (.aload_n 0, 1) := by decide +kernel
theorem dJ2_length_9d52b_1 : decode cJ2_length_9d52b 1 = .ok (.arraylength, 1) := by decide +kernel
theorem dJ2_length_9d52b_2 : decode cJ2_length_9d52b 2 = .ok (.iconst 1, 1) := by decide +kernel
theorem dJ2_length_9d52b_3 : decode cJ2_length_9d52b 3 = .ok (.ishr, 1) := by decide +kernel
theorem dJ2_length_9d52b_4 : decode cJ2_length_9d52b 4 = .ok (.ireturn, 1) := by decide +kernel
theorem dJ2_charAt_3b067_0 : decode cJ2_charAt_3b067 0 = .ok (.iload_n 1, 1) := by decide +kernel
theorem dJ2_charAt_3b067_1 : decode cJ2_charAt_3b067 1 = .ok (.aload_n 0, 1) := by decide +kernel
theorem dJ2_charAt_3b067_2 : decode cJ2_charAt_3b067 2 = .ok (.invokestatic 67, 3) := by decide +kernel
theorem dJ2_charAt_3b067_5 : decode cJ2_charAt_3b067 5 = .ok (.aload_n 0, 1) := by decide +kernel
theorem dJ2_charAt_3b067_6 : decode cJ2_charAt_3b067 6 = .ok (.iload_n 1, 1) := by decide +kernel
theorem dJ2_charAt_3b067_7 : decode cJ2_charAt_3b067 7 = .ok (.invokestatic 71, 3) := by decide +kernel
theorem dJ2_charAt_3b067_10 : decode cJ2_charAt_3b067 10 = .ok (.ireturn, 1) := by decide +kernel
theorem dJ2_checkIndex_2214a_0 : decode cJ2_checkIndex_2214a 0 = .ok (.iload_n 0, 1) := by decide +kernel
theorem dJ2_checkIndex_2214a_1 : decode cJ2_checkIndex_2214a 1 = .ok (.aload_n 1, 1) := by decide +kernel
theorem dJ2_checkIndex_2214a_2 : decode cJ2_checkIndex_2214a 2 = .ok (.invokestatic 48, 3) := by decide +kernel
theorem dJ2_checkIndex_2214a_5 : decode cJ2_checkIndex_2214a 5 = .ok (.invokestatic 414, 3) := by decide +kernel
theorem dJ2_checkIndex_2214a_8 : decode cJ2_checkIndex_2214a 8 = .ok (.return_, 1) := by decide +kernel
theorem dJ7_fill_53178_0 : decode cJ7_fill_53178 0 = .ok (.iconst 0, 1) := by decide +kernel
theorem dJ7_fill_53178_1 : decode cJ7_fill_53178 1 = .ok (.istore_n 2, 1) := by decide +kernel
theorem dJ7_fill_53178_2 : decode cJ7_fill_53178 2 = .ok (.aload_n 0, 1) := by decide +kernel
theorem dJ7_fill_53178_3 : decode cJ7_fill_53178 3 = .ok (.arraylength, 1) := by decide +kernel
theorem dJ7_fill_53178_4 : decode cJ7_fill_53178 4 = .ok (.istore_n 3, 1) := by decide +kernel
theorem dJ7_fill_53178_5 : decode cJ7_fill_53178 5 = .ok (.iload_n 2, 1) := by decide +kernel
theorem dJ7_fill_53178_6 : decode cJ7_fill_53178 6 = .ok (.iload_n 3, 1) := by decide +kernel
theorem dJ7_fill_53178_7 : decode cJ7_fill_53178 7 = .ok (.if_icmp .ge 13, 3) := by decide +kernel
theorem dJ7_fill_53178_10 : decode cJ7_fill_53178 10 = .ok (.aload_n 0, 1) := by decide +kernel
theorem dJ7_fill_53178_11 : decode cJ7_fill_53178 11 = .ok (.iload_n 2, 1) := by decide +kernel
theorem dJ7_fill_53178_12 : decode cJ7_fill_53178 12 = .ok (.iload_n 1, 1) := by decide +kernel
theorem dJ7_fill_53178_13 : decode cJ7_fill_53178 13 = .ok (.iastore, 1) := by decide +kernel
theorem dJ7_fill_53178_14 : decode cJ7_fill_53178 14 = .ok (.iinc 2 1, 3) := by decide +kernel
theorem dJ7_fill_53178_17 : decode cJ7_fill_53178 17 = .ok (.goto (-12), 3) := by decide +kernel
theorem dJ7_fill_53178_20 : decode cJ7_fill_53178 20 = .ok (.return_, 1) := by decide +kernel
theorem dJ3_checkIndex_8e157_0 : decode cJ3_checkIndex_8e157 0 = .ok (.iload_n 0, 1) := by decide +kernel
theorem dJ3_checkIndex_8e157_1 : decode cJ3_checkIndex_8e157 1 = .ok (.ifCond .lt 8, 3) := by decide +kernel
theorem dJ3_checkIndex_8e157_4 : decode cJ3_checkIndex_8e157 4 = .ok (.iload_n 0, 1) := by decide +kernel
theorem dJ3_checkIndex_8e157_5 : decode cJ3_checkIndex_8e157 5 = .ok (.iload_n 1, 1) := by decide +kernel
theorem dJ3_checkIndex_8e157_6 : decode cJ3_checkIndex_8e157 6 = .ok (.if_icmp .lt 10, 3) := by decide +kernel
theorem dJ3_checkIndex_8e157_9 : decode cJ3_checkIndex_8e157 9 = .ok (.aload_n 2, 1) := by decide +kernel
theorem dJ3_checkIndex_8e157_10 : decode cJ3_checkIndex_8e157 10 = .ok (.iload_n 0, 1) := by decide +kernel
theorem dJ3_checkIndex_8e157_11 : decode cJ3_checkIndex_8e157 11 = .ok (.iload_n 1, 1) := by decide +kernel
theorem dJ3_checkIndex_8e157_12 : decode cJ3_checkIndex_8e157 12 = .ok (.invokestatic 95, 3) := by decide +kernel
theorem dJ3_checkIndex_8e157_15 : decode cJ3_checkIndex_8e157 15 = .ok (.athrow, 1) := by decide +kernel
theorem dJ3_checkIndex_8e157_16 : decode cJ3_checkIndex_8e157 16 = .ok (.iload_n 0, 1) := by decide +kernel
theorem dJ3_checkIndex_8e157_17 : decode cJ3_checkIndex_8e157 17 = .ok (.ireturn, 1) := by decide +kernel
theorem dL_acts_0 : decode cL_acts 0 = .ok (.aload_n 1, 1) := by decide +kernel
theorem dL_acts_1 : decode cL_acts 1 = .ok (.iconst 0, 1) := by decide +kernel
theorem dL_acts_2 : decode cL_acts 2 = .ok (.aload_n 0, 1) := by decide +kernel
theorem dL_acts_3 : decode cL_acts 3 = .ok (.invokevirtual 7, 3) := by decide +kernel
theorem dL_acts_6 : decode cL_acts 6 = .ok (.i2l, 1) := by decide +kernel
theorem dL_acts_7 : decode cL_acts 7 = .ok (.lastore, 1) := by decide +kernel
theorem dL_acts_8 : decode cL_acts 8 = .ok (.goto 6, 3) := by decide +kernel
theorem dL_acts_11 : decode cL_acts 11 = .ok (.astore_n 2, 1) := by decide +kernel
theorem dL_acts_12 : decode cL_acts 12 = .ok (.iconst 1, 1) := by decide +kernel
theorem dL_acts_13 : decode cL_acts 13 = .ok (.ireturn, 1) := by decide +kernel
theorem dL_acts_14 : decode cL_acts 14 = .ok (.iconst 0, 1) := by decide +kernel
theorem dL_acts_15 : decode cL_acts 15 = .ok (.ireturn, 1) := by decide +kernel
theorem dL_net_0 : decode cL_net 0 = .ok (.aload_n 0, 1) := by decide +kernel
theorem dL_net_1 : decode cL_net 1 = .ok (.iload_n 1, 1) := by decide +kernel
theorem dL_net_2 : decode cL_net 2 = .ok (.invokevirtual 15, 3) := by decide +kernel
theorem dL_net_5 : decode cL_net 5 = .ok (.goto 6, 3) := by decide +kernel
theorem dL_net_8 : decode cL_net 8 = .ok (.astore_n 2, 1) := by decide +kernel
theorem dL_net_9 : decode cL_net 9 = .ok (.iconst 1, 1) := by decide +kernel
theorem dL_net_10 : decode cL_net 10 = .ok (.ireturn, 1) := by decide +kernel
theorem dL_net_11 : decode cL_net 11 = .ok (.iconst 0, 1) := by decide +kernel
theorem dL_net_12 : decode cL_net 12 = .ok (.ireturn, 1) := by decide +kernel
theorem dL_tell_0 : decode cL_tell 0 = .ok (.aload_n 3, 1) := by decide +kernel
theorem dL_tell_1 : decode cL_tell 1 = .ok (.iconst 0, 1) := by decide +kernel
theorem dL_tell_2 : decode cL_tell 2 = .ok (.aload_n 0, 1) := by decide +kernel
theorem dL_tell_3 : decode cL_tell 3 = .ok (.iload_n 1, 1) := by decide +kernel
theorem dL_tell_4 : decode cL_tell 4 = .ok (.iload_n 2, 1) := by decide +kernel
theorem dL_tell_5 : decode cL_tell 5 = .ok (.invokevirtual 19, 3) := by decide +kernel
theorem dL_tell_8 : decode cL_tell 8 = .ok (.i2l, 1) := by decide +kernel
theorem dL_tell_9 : decode cL_tell 9 = .ok (.lastore, 1) := by decide +kernel
theorem dL_tell_10 : decode cL_tell 10 = .ok (.goto 7, 3) := by decide +kernel
theorem dL_tell_13 : decode cL_tell 13 = .ok (.astore 4, 2) := by decide +kernel
theorem dL_tell_15 : decode cL_tell 15 = .ok (.iconst 1, 1) := by decide +kernel
theorem dL_tell_16 : decode cL_tell 16 = .ok (.ireturn, 1) := by decide +kernel
theorem dL_tell_17 : decode cL_tell 17 = .ok (.iconst 0, 1) := by decide +kernel
theorem dL_tell_18 : decode cL_tell 18 = .ok (.ireturn, 1) := by decide +kernel
theorem dL_lay_0 : decode cL_lay 0 = .ok (.aload_n 3, 1) := by decide +kernel
theorem dL_lay_1 : decode cL_lay 1 = .ok (.iconst 0, 1) := by decide +kernel
theorem dL_lay_2 : decode cL_lay 2 = .ok (.aload_n 0, 1) := by decide +kernel
theorem dL_lay_3 : decode cL_lay 3 = .ok (.iload_n 1, 1) := by decide +kernel
theorem dL_lay_4 : decode cL_lay 4 = .ok (.iload_n 2, 1) := by decide +kernel
theorem dL_lay_5 : decode cL_lay 5 = .ok (.invokevirtual 25, 3) := by decide +kernel
theorem dL_lay_8 : decode cL_lay 8 = .ok (.i2l, 1) := by decide +kernel
theorem dL_lay_9 : decode cL_lay 9 = .ok (.lastore, 1) := by decide +kernel
theorem dL_lay_10 : decode cL_lay 10 = .ok (.goto 7, 3) := by decide +kernel
theorem dL_lay_13 : decode cL_lay 13 = .ok (.astore 4, 2) := by decide +kernel
theorem dL_lay_15 : decode cL_lay 15 = .ok (.iconst 1, 1) := by decide +kernel
theorem dL_lay_16 : decode cL_lay 16 = .ok (.ireturn, 1) := by decide +kernel
theorem dL_lay_17 : decode cL_lay 17 = .ok (.iconst 0, 1) := by decide +kernel
theorem dL_lay_18 : decode cL_lay 18 = .ok (.ireturn, 1) := by decide +kernel
theorem dL_shut_0 : decode cL_shut 0 = .ok (.aload_n 2, 1) := by decide +kernel
theorem dL_shut_1 : decode cL_shut 1 = .ok (.iconst 0, 1) := by decide +kernel
theorem dL_shut_2 : decode cL_shut 2 = .ok (.aload_n 0, 1) := by decide +kernel
theorem dL_shut_3 : decode cL_shut 3 = .ok (.iload_n 1, 1) := by decide +kernel
theorem dL_shut_4 : decode cL_shut 4 = .ok (.invokevirtual 29, 3) := by decide +kernel
theorem dL_shut_7 : decode cL_shut 7 = .ok (.i2l, 1) := by decide +kernel
theorem dL_shut_8 : decode cL_shut 8 = .ok (.lastore, 1) := by decide +kernel
theorem dL_shut_9 : decode cL_shut 9 = .ok (.goto 6, 3) := by decide +kernel
theorem dL_shut_12 : decode cL_shut 12 = .ok (.astore_n 3, 1) := by decide +kernel
theorem dL_shut_13 : decode cL_shut 13 = .ok (.iconst 1, 1) := by decide +kernel
theorem dL_shut_14 : decode cL_shut 14 = .ok (.ireturn, 1) := by decide +kernel
theorem dL_shut_15 : decode cL_shut 15 = .ok (.iconst 0, 1) := by decide +kernel
theorem dL_shut_16 : decode cL_shut 16 = .ok (.ireturn, 1) := by decide +kernel
theorem dL_open_0 : decode cL_open 0 = .ok (.aload_n 2, 1) := by decide +kernel
theorem dL_open_1 : decode cL_open 1 = .ok (.iconst 0, 1) := by decide +kernel
theorem dL_open_2 : decode cL_open 2 = .ok (.aload_n 0, 1) := by decide +kernel
theorem dL_open_3 : decode cL_open 3 = .ok (.iload_n 1, 1) := by decide +kernel
theorem dL_open_4 : decode cL_open 4 = .ok (.invokevirtual 33, 3) := by decide +kernel
theorem dL_open_7 : decode cL_open 7 = .ok (.i2l, 1) := by decide +kernel
theorem dL_open_8 : decode cL_open 8 = .ok (.lastore, 1) := by decide +kernel
theorem dL_open_9 : decode cL_open 9 = .ok (.goto 6, 3) := by decide +kernel
theorem dL_open_12 : decode cL_open 12 = .ok (.astore_n 3, 1) := by decide +kernel
theorem dL_open_13 : decode cL_open 13 = .ok (.iconst 1, 1) := by decide +kernel
theorem dL_open_14 : decode cL_open 14 = .ok (.ireturn, 1) := by decide +kernel
theorem dL_open_15 : decode cL_open 15 = .ok (.iconst 0, 1) := by decide +kernel
theorem dL_open_16 : decode cL_open 16 = .ok (.ireturn, 1) := by decide +kernel
theorem dL_toll_0 : decode cL_toll 0 = .ok (.aload_n 3, 1) := by decide +kernel
theorem dL_toll_1 : decode cL_toll 1 = .ok (.iconst 0, 1) := by decide +kernel
theorem dL_toll_2 : decode cL_toll 2 = .ok (.aload_n 0, 1) := by decide +kernel
theorem dL_toll_3 : decode cL_toll 3 = .ok (.iload_n 1, 1) := by decide +kernel
theorem dL_toll_4 : decode cL_toll 4 = .ok (.iload_n 2, 1) := by decide +kernel
theorem dL_toll_5 : decode cL_toll 5 = .ok (.invokevirtual 36, 3) := by decide +kernel
theorem dL_toll_8 : decode cL_toll 8 = .ok (.i2l, 1) := by decide +kernel
theorem dL_toll_9 : decode cL_toll 9 = .ok (.lastore, 1) := by decide +kernel
theorem dL_toll_10 : decode cL_toll 10 = .ok (.goto 11, 3) := by decide +kernel
theorem dL_toll_13 : decode cL_toll 13 = .ok (.astore 4, 2) := by decide +kernel
theorem dL_toll_15 : decode cL_toll 15 = .ok (.iconst 1, 1) := by decide +kernel
theorem dL_toll_16 : decode cL_toll 16 = .ok (.ireturn, 1) := by decide +kernel
theorem dL_toll_17 : decode cL_toll 17 = .ok (.astore 4, 2) := by decide +kernel
theorem dL_toll_19 : decode cL_toll 19 = .ok (.iconst 2, 1) := by decide +kernel
theorem dL_toll_20 : decode cL_toll 20 = .ok (.ireturn, 1) := by decide +kernel
theorem dL_toll_21 : decode cL_toll 21 = .ok (.iconst 0, 1) := by decide +kernel
theorem dL_toll_22 : decode cL_toll 22 = .ok (.ireturn, 1) := by decide +kernel
theorem dL_undo_0 : decode cL_undo 0 = .ok (.aload_n 1, 1) := by decide +kernel
theorem dL_undo_1 : decode cL_undo 1 = .ok (.iconst 0, 1) := by decide +kernel
theorem dL_undo_2 : decode cL_undo 2 = .ok (.aload_n 0, 1) := by decide +kernel
theorem dL_undo_3 : decode cL_undo 3 = .ok (.invokevirtual 39, 3) := by decide +kernel
theorem dL_undo_6 : decode cL_undo 6 = .ok (.i2l, 1) := by decide +kernel
theorem dL_undo_7 : decode cL_undo 7 = .ok (.lastore, 1) := by decide +kernel
theorem dL_undo_8 : decode cL_undo 8 = .ok (.goto 6, 3) := by decide +kernel
theorem dL_undo_11 : decode cL_undo 11 = .ok (.astore_n 2, 1) := by decide +kernel
theorem dL_undo_12 : decode cL_undo 12 = .ok (.iconst 1, 1) := by decide +kernel
theorem dL_undo_13 : decode cL_undo 13 = .ok (.ireturn, 1) := by decide +kernel
theorem dL_undo_14 : decode cL_undo 14 = .ok (.iconst 0, 1) := by decide +kernel
theorem dL_undo_15 : decode cL_undo 15 = .ok (.ireturn, 1) := by decide +kernel
theorem dL_latest_0 : decode cL_latest 0 = .ok (.aload_n 2, 1) := by decide +kernel
theorem dL_latest_1 : decode cL_latest 1 = .ok (.iconst 0, 1) := by decide +kernel
theorem dL_latest_2 : decode cL_latest 2 = .ok (.aload_n 0, 1) := by decide +kernel
theorem dL_latest_3 : decode cL_latest 3 = .ok (.iload_n 1, 1) := by decide +kernel
theorem dL_latest_4 : decode cL_latest 4 = .ok (.invokevirtual 42, 3) := by decide +kernel
theorem dL_latest_7 : decode cL_latest 7 = .ok (.i2l, 1) := by decide +kernel
theorem dL_latest_8 : decode cL_latest 8 = .ok (.lastore, 1) := by decide +kernel
theorem dL_latest_9 : decode cL_latest 9 = .ok (.goto 6, 3) := by decide +kernel
theorem dL_latest_12 : decode cL_latest 12 = .ok (.astore_n 3, 1) := by decide +kernel
theorem dL_latest_13 : decode cL_latest 13 = .ok (.iconst 1, 1) := by decide +kernel
theorem dL_latest_14 : decode cL_latest 14 = .ok (.ireturn, 1) := by decide +kernel
theorem dL_latest_15 : decode cL_latest 15 = .ok (.iconst 0, 1) := by decide +kernel
theorem dL_latest_16 : decode cL_latest 16 = .ok (.ireturn, 1) := by decide +kernel
theorem dL_node_0 : decode cL_node 0 = .ok (.aload_n 3, 1) := by decide +kernel
theorem dL_node_1 : decode cL_node 1 = .ok (.iconst 0, 1) := by decide +kernel
theorem dL_node_2 : decode cL_node 2 = .ok (.aload_n 0, 1) := by decide +kernel
theorem dL_node_3 : decode cL_node 3 = .ok (.iload_n 1, 1) := by decide +kernel
theorem dL_node_4 : decode cL_node 4 = .ok (.iload_n 2, 1) := by decide +kernel
theorem dL_node_5 : decode cL_node 5 = .ok (.invokevirtual 47, 3) := by decide +kernel
theorem dL_node_8 : decode cL_node 8 = .ok (.i2l, 1) := by decide +kernel
theorem dL_node_9 : decode cL_node 9 = .ok (.lastore, 1) := by decide +kernel
theorem dL_node_10 : decode cL_node 10 = .ok (.goto 11, 3) := by decide +kernel
theorem dL_node_13 : decode cL_node 13 = .ok (.astore 4, 2) := by decide +kernel
theorem dL_node_15 : decode cL_node 15 = .ok (.iconst 1, 1) := by decide +kernel
theorem dL_node_16 : decode cL_node 16 = .ok (.ireturn, 1) := by decide +kernel
theorem dL_node_17 : decode cL_node 17 = .ok (.astore 4, 2) := by decide +kernel
theorem dL_node_19 : decode cL_node 19 = .ok (.iconst 2, 1) := by decide +kernel
theorem dL_node_20 : decode cL_node 20 = .ok (.ireturn, 1) := by decide +kernel
theorem dL_node_21 : decode cL_node 21 = .ok (.iconst 0, 1) := by decide +kernel
theorem dL_node_22 : decode cL_node 22 = .ok (.ireturn, 1) := by decide +kernel
theorem dL_keeps_0 : decode cL_keeps 0 = .ok (.aload_n 3, 1) := by decide +kernel
theorem dL_keeps_1 : decode cL_keeps 1 = .ok (.iconst 0, 1) := by decide +kernel
theorem dL_keeps_2 : decode cL_keeps 2 = .ok (.aload_n 0, 1) := by decide +kernel
theorem dL_keeps_3 : decode cL_keeps 3 = .ok (.iload_n 1, 1) := by decide +kernel
theorem dL_keeps_4 : decode cL_keeps 4 = .ok (.iload_n 2, 1) := by decide +kernel
theorem dL_keeps_5 : decode cL_keeps 5 = .ok (.invokevirtual 52, 3) := by decide +kernel
theorem dL_keeps_8 : decode cL_keeps 8 = .ok (.ifCond .eq 7, 3) := by decide +kernel
theorem dL_keeps_11 : decode cL_keeps 11 = .ok (.lconst 1, 1) := by decide +kernel
theorem dL_keeps_12 : decode cL_keeps 12 = .ok (.goto 4, 3) := by decide +kernel
theorem dL_keeps_15 : decode cL_keeps 15 = .ok (.lconst 0, 1) := by decide +kernel
theorem dL_keeps_16 : decode cL_keeps 16 = .ok (.lastore, 1) := by decide +kernel
theorem dL_keeps_17 : decode cL_keeps 17 = .ok (.goto 7, 3) := by decide +kernel
theorem dL_keeps_20 : decode cL_keeps 20 = .ok (.astore 4, 2) := by decide +kernel
theorem dL_keeps_22 : decode cL_keeps 22 = .ok (.iconst 1, 1) := by decide +kernel
theorem dL_keeps_23 : decode cL_keeps 23 = .ok (.ireturn, 1) := by decide +kernel
theorem dL_keeps_24 : decode cL_keeps 24 = .ok (.iconst 0, 1) := by decide +kernel
theorem dL_keeps_25 : decode cL_keeps 25 = .ok (.ireturn, 1) := by decide +kernel
theorem dL_common_0 : decode cL_common 0 = .ok (.aload_n 3, 1) := by decide +kernel
theorem dL_common_1 : decode cL_common 1 = .ok (.iconst 0, 1) := by decide +kernel
theorem dL_common_2 : decode cL_common 2 = .ok (.aload_n 0, 1) := by decide +kernel
theorem dL_common_3 : decode cL_common 3 = .ok (.iload_n 1, 1) := by decide +kernel
theorem dL_common_4 : decode cL_common 4 = .ok (.iload_n 2, 1) := by decide +kernel
theorem dL_common_5 : decode cL_common 5 = .ok (.invokevirtual 56, 3) := by decide +kernel
theorem dL_common_8 : decode cL_common 8 = .ok (.i2l, 1) := by decide +kernel
theorem dL_common_9 : decode cL_common 9 = .ok (.lastore, 1) := by decide +kernel
theorem dL_common_10 : decode cL_common 10 = .ok (.goto 7, 3) := by decide +kernel
theorem dL_common_13 : decode cL_common 13 = .ok (.astore 4, 2) := by decide +kernel
theorem dL_common_15 : decode cL_common 15 = .ok (.iconst 1, 1) := by decide +kernel
theorem dL_common_16 : decode cL_common 16 = .ok (.ireturn, 1) := by decide +kernel
theorem dL_common_17 : decode cL_common 17 = .ok (.iconst 0, 1) := by decide +kernel
theorem dL_common_18 : decode cL_common 18 = .ok (.ireturn, 1) := by decide +kernel
theorem dL_arc_0 : decode cL_arc 0 = .ok (.aload_n 3, 1) := by decide +kernel
theorem dL_arc_1 : decode cL_arc 1 = .ok (.iconst 0, 1) := by decide +kernel
theorem dL_arc_2 : decode cL_arc 2 = .ok (.aload_n 0, 1) := by decide +kernel
theorem dL_arc_3 : decode cL_arc 3 = .ok (.iload_n 1, 1) := by decide +kernel
theorem dL_arc_4 : decode cL_arc 4 = .ok (.iload_n 2, 1) := by decide +kernel
theorem dL_arc_5 : decode cL_arc 5 = .ok (.invokevirtual 59, 3) := by decide +kernel
theorem dL_arc_8 : decode cL_arc 8 = .ok (.i2l, 1) := by decide +kernel
theorem dL_arc_9 : decode cL_arc 9 = .ok (.lastore, 1) := by decide +kernel
theorem dL_arc_10 : decode cL_arc 10 = .ok (.goto 11, 3) := by decide +kernel
theorem dL_arc_13 : decode cL_arc 13 = .ok (.astore 4, 2) := by decide +kernel
theorem dL_arc_15 : decode cL_arc 15 = .ok (.iconst 1, 1) := by decide +kernel
theorem dL_arc_16 : decode cL_arc 16 = .ok (.ireturn, 1) := by decide +kernel
theorem dL_arc_17 : decode cL_arc 17 = .ok (.astore 4, 2) := by decide +kernel
theorem dL_arc_19 : decode cL_arc 19 = .ok (.iconst 2, 1) := by decide +kernel
theorem dL_arc_20 : decode cL_arc 20 = .ok (.ireturn, 1) := by decide +kernel
theorem dL_arc_21 : decode cL_arc 21 = .ok (.iconst 0, 1) := by decide +kernel
theorem dL_arc_22 : decode cL_arc 22 = .ok (.ireturn, 1) := by decide +kernel
theorem dL_without_0 : decode cL_without 0 = .ok (.aload_n 2, 1) := by decide +kernel
theorem dL_without_1 : decode cL_without 1 = .ok (.iconst 0, 1) := by decide +kernel
theorem dL_without_2 : decode cL_without 2 = .ok (.aload_n 0, 1) := by decide +kernel
theorem dL_without_3 : decode cL_without 3 = .ok (.iload_n 1, 1) := by decide +kernel
theorem dL_without_4 : decode cL_without 4 = .ok (.invokevirtual 62, 3) := by decide +kernel
theorem dL_without_7 : decode cL_without 7 = .ok (.i2l, 1) := by decide +kernel
theorem dL_without_8 : decode cL_without 8 = .ok (.lastore, 1) := by decide +kernel
theorem dL_without_9 : decode cL_without 9 = .ok (.goto 6, 3) := by decide +kernel
theorem dL_without_12 : decode cL_without 12 = .ok (.astore_n 3, 1) := by decide +kernel
theorem dL_without_13 : decode cL_without 13 = .ok (.iconst 1, 1) := by decide +kernel
theorem dL_without_14 : decode cL_without 14 = .ok (.ireturn, 1) := by decide +kernel
theorem dL_without_15 : decode cL_without 15 = .ok (.iconst 0, 1) := by decide +kernel
theorem dL_without_16 : decode cL_without 16 = .ok (.ireturn, 1) := by decide +kernel
theorem dL_seal_0 : decode cL_seal 0 = .ok (.aload_n 2, 1) := by decide +kernel
theorem dL_seal_1 : decode cL_seal 1 = .ok (.iconst 0, 1) := by decide +kernel
theorem dL_seal_2 : decode cL_seal 2 = .ok (.aload_n 0, 1) := by decide +kernel
theorem dL_seal_3 : decode cL_seal 3 = .ok (.iload_n 1, 1) := by decide +kernel
theorem dL_seal_4 : decode cL_seal 4 = .ok (.invokevirtual 65, 3) := by decide +kernel
theorem dL_seal_7 : decode cL_seal 7 = .ok (.i2l, 1) := by decide +kernel
theorem dL_seal_8 : decode cL_seal 8 = .ok (.lastore, 1) := by decide +kernel
theorem dL_seal_9 : decode cL_seal 9 = .ok (.goto 6, 3) := by decide +kernel
theorem dL_seal_12 : decode cL_seal 12 = .ok (.astore_n 3, 1) := by decide +kernel
theorem dL_seal_13 : decode cL_seal 13 = .ok (.iconst 1, 1) := by decide +kernel
theorem dL_seal_14 : decode cL_seal 14 = .ok (.ireturn, 1) := by decide +kernel
theorem dL_seal_15 : decode cL_seal 15 = .ok (.iconst 0, 1) := by decide +kernel
theorem dL_seal_16 : decode cL_seal 16 = .ok (.ireturn, 1) := by decide +kernel
theorem dL_chain_0 : decode cL_chain 0 = .ok (.aload_n 3, 1) := by decide +kernel
theorem dL_chain_1 : decode cL_chain 1 = .ok (.iconst 0, 1) := by decide +kernel
theorem dL_chain_2 : decode cL_chain 2 = .ok (.aload_n 0, 1) := by decide +kernel
theorem dL_chain_3 : decode cL_chain 3 = .ok (.iload_n 1, 1) := by decide +kernel
theorem dL_chain_4 : decode cL_chain 4 = .ok (.iload_n 2, 1) := by decide +kernel
theorem dL_chain_5 : decode cL_chain 5 = .ok (.invokevirtual 68, 3) := by decide +kernel
theorem dL_chain_8 : decode cL_chain 8 = .ok (.i2l, 1) := by decide +kernel
theorem dL_chain_9 : decode cL_chain 9 = .ok (.lastore, 1) := by decide +kernel
theorem dL_chain_10 : decode cL_chain 10 = .ok (.goto 7, 3) := by decide +kernel
theorem dL_chain_13 : decode cL_chain 13 = .ok (.astore 4, 2) := by decide +kernel
theorem dL_chain_15 : decode cL_chain 15 = .ok (.iconst 1, 1) := by decide +kernel
theorem dL_chain_16 : decode cL_chain 16 = .ok (.ireturn, 1) := by decide +kernel
theorem dL_chain_17 : decode cL_chain 17 = .ok (.iconst 0, 1) := by decide +kernel
theorem dL_chain_18 : decode cL_chain 18 = .ok (.ireturn, 1) := by decide +kernel
theorem dL_via_0 : decode cL_via 0 = .ok (.aload_n 3, 1) := by decide +kernel
theorem dL_via_1 : decode cL_via 1 = .ok (.iconst 0, 1) := by decide +kernel
theorem dL_via_2 : decode cL_via 2 = .ok (.aload_n 0, 1) := by decide +kernel
theorem dL_via_3 : decode cL_via 3 = .ok (.iload_n 1, 1) := by decide +kernel
theorem dL_via_4 : decode cL_via 4 = .ok (.iload_n 2, 1) := by decide +kernel
theorem dL_via_5 : decode cL_via 5 = .ok (.invokevirtual 71, 3) := by decide +kernel
theorem dL_via_8 : decode cL_via 8 = .ok (.i2l, 1) := by decide +kernel
theorem dL_via_9 : decode cL_via 9 = .ok (.lastore, 1) := by decide +kernel
theorem dL_via_10 : decode cL_via 10 = .ok (.goto 7, 3) := by decide +kernel
theorem dL_via_13 : decode cL_via 13 = .ok (.astore 4, 2) := by decide +kernel
theorem dL_via_15 : decode cL_via 15 = .ok (.iconst 1, 1) := by decide +kernel
theorem dL_via_16 : decode cL_via 16 = .ok (.ireturn, 1) := by decide +kernel
theorem dL_via_17 : decode cL_via 17 = .ok (.iconst 0, 1) := by decide +kernel
theorem dL_via_18 : decode cL_via 18 = .ok (.ireturn, 1) := by decide +kernel
theorem dL_pass_0 : decode cL_pass 0 = .ok (.aload_n 3, 1) := by decide +kernel
theorem dL_pass_1 : decode cL_pass 1 = .ok (.iconst 0, 1) := by decide +kernel
theorem dL_pass_2 : decode cL_pass 2 = .ok (.aload_n 0, 1) := by decide +kernel
theorem dL_pass_3 : decode cL_pass 3 = .ok (.iload_n 1, 1) := by decide +kernel
theorem dL_pass_4 : decode cL_pass 4 = .ok (.iload_n 2, 1) := by decide +kernel
theorem dL_pass_5 : decode cL_pass 5 = .ok (.invokevirtual 74, 3) := by decide +kernel
theorem dL_pass_8 : decode cL_pass 8 = .ok (.i2l, 1) := by decide +kernel
theorem dL_pass_9 : decode cL_pass 9 = .ok (.lastore, 1) := by decide +kernel
theorem dL_pass_10 : decode cL_pass 10 = .ok (.goto 7, 3) := by decide +kernel
theorem dL_pass_13 : decode cL_pass 13 = .ok (.astore 4, 2) := by decide +kernel
theorem dL_pass_15 : decode cL_pass 15 = .ok (.iconst 1, 1) := by decide +kernel
theorem dL_pass_16 : decode cL_pass 16 = .ok (.ireturn, 1) := by decide +kernel
theorem dL_pass_17 : decode cL_pass 17 = .ok (.iconst 0, 1) := by decide +kernel
theorem dL_pass_18 : decode cL_pass 18 = .ok (.ireturn, 1) := by decide +kernel
theorem dL_fall_0 : decode cL_fall 0 = .ok (.aload_n 3, 1) := by decide +kernel
theorem dL_fall_1 : decode cL_fall 1 = .ok (.iconst 0, 1) := by decide +kernel
theorem dL_fall_2 : decode cL_fall 2 = .ok (.aload_n 0, 1) := by decide +kernel
theorem dL_fall_3 : decode cL_fall 3 = .ok (.iload_n 1, 1) := by decide +kernel
theorem dL_fall_4 : decode cL_fall 4 = .ok (.iload_n 2, 1) := by decide +kernel
theorem dL_fall_5 : decode cL_fall 5 = .ok (.invokevirtual 77, 3) := by decide +kernel
theorem dL_fall_8 : decode cL_fall 8 = .ok (.i2l, 1) := by decide +kernel
theorem dL_fall_9 : decode cL_fall 9 = .ok (.lastore, 1) := by decide +kernel
theorem dL_fall_10 : decode cL_fall 10 = .ok (.goto 15, 3) := by decide +kernel
theorem dL_fall_13 : decode cL_fall 13 = .ok (.astore 4, 2) := by decide +kernel
theorem dL_fall_15 : decode cL_fall 15 = .ok (.iconst 1, 1) := by decide +kernel
theorem dL_fall_16 : decode cL_fall 16 = .ok (.ireturn, 1) := by decide +kernel
theorem dL_fall_17 : decode cL_fall 17 = .ok (.astore 4, 2) := by decide +kernel
theorem dL_fall_19 : decode cL_fall 19 = .ok (.iconst 2, 1) := by decide +kernel
theorem dL_fall_20 : decode cL_fall 20 = .ok (.ireturn, 1) := by decide +kernel
theorem dL_fall_21 : decode cL_fall 21 = .ok (.astore 4, 2) := by decide +kernel
theorem dL_fall_23 : decode cL_fall 23 = .ok (.iconst 3, 1) := by decide +kernel
theorem dL_fall_24 : decode cL_fall 24 = .ok (.ireturn, 1) := by decide +kernel
theorem dL_fall_25 : decode cL_fall 25 = .ok (.iconst 0, 1) := by decide +kernel
theorem dL_fall_26 : decode cL_fall 26 = .ok (.ireturn, 1) := by decide +kernel
theorem dL_worst_0 : decode cL_worst 0 = .ok (.aload_n 2, 1) := by decide +kernel
theorem dL_worst_1 : decode cL_worst 1 = .ok (.iconst 0, 1) := by decide +kernel
theorem dL_worst_2 : decode cL_worst 2 = .ok (.aload_n 0, 1) := by decide +kernel
theorem dL_worst_3 : decode cL_worst 3 = .ok (.iload_n 1, 1) := by decide +kernel
theorem dL_worst_4 : decode cL_worst 4 = .ok (.invokevirtual 80, 3) := by decide +kernel
theorem dL_worst_7 : decode cL_worst 7 = .ok (.i2l, 1) := by decide +kernel
theorem dL_worst_8 : decode cL_worst 8 = .ok (.lastore, 1) := by decide +kernel
theorem dL_worst_9 : decode cL_worst 9 = .ok (.goto 6, 3) := by decide +kernel
theorem dL_worst_12 : decode cL_worst 12 = .ok (.astore_n 3, 1) := by decide +kernel
theorem dL_worst_13 : decode cL_worst 13 = .ok (.iconst 1, 1) := by decide +kernel
theorem dL_worst_14 : decode cL_worst 14 = .ok (.ireturn, 1) := by decide +kernel
theorem dL_worst_15 : decode cL_worst 15 = .ok (.iconst 0, 1) := by decide +kernel
theorem dL_worst_16 : decode cL_worst 16 = .ok (.ireturn, 1) := by decide +kernel
theorem dL_would_0 : decode cL_would 0 = .ok (.aload 4, 2) := by decide +kernel
theorem dL_would_2 : decode cL_would 2 = .ok (.iconst 0, 1) := by decide +kernel
theorem dL_would_3 : decode cL_would 3 = .ok (.aload_n 0, 1) := by decide +kernel
theorem dL_would_4 : decode cL_would 4 = .ok (.iload_n 1, 1) := by decide +kernel
theorem dL_would_5 : decode cL_would 5 = .ok (.iload_n 2, 1) := by decide +kernel
theorem dL_would_6 : decode cL_would 6 = .ok (.iload_n 3, 1) := by decide +kernel
theorem dL_would_7 : decode cL_would 7 = .ok (.invokevirtual 83, 3) := by decide +kernel
theorem dL_would_10 : decode cL_would 10 = .ok (.i2l, 1) := by decide +kernel
theorem dL_would_11 : decode cL_would 11 = .ok (.lastore, 1) := by decide +kernel
theorem dL_would_12 : decode cL_would 12 = .ok (.goto 11, 3) := by decide +kernel
theorem dL_would_15 : decode cL_would 15 = .ok (.astore 5, 2) := by decide +kernel
theorem dL_would_17 : decode cL_would 17 = .ok (.iconst 1, 1) := by decide +kernel
theorem dL_would_18 : decode cL_would 18 = .ok (.ireturn, 1) := by decide +kernel
theorem dL_would_19 : decode cL_would 19 = .ok (.astore 5, 2) := by decide +kernel
theorem dL_would_21 : decode cL_would 21 = .ok (.iconst 2, 1) := by decide +kernel
theorem dL_would_22 : decode cL_would 22 = .ok (.ireturn, 1) := by decide +kernel
theorem dL_would_23 : decode cL_would 23 = .ok (.iconst 0, 1) := by decide +kernel
theorem dL_would_24 : decode cL_would 24 = .ok (.ireturn, 1) := by decide +kernel
theorem dL_best_0 : decode cL_best 0 = .ok (.aload_n 2, 1) := by decide +kernel
theorem dL_best_1 : decode cL_best 1 = .ok (.iconst 0, 1) := by decide +kernel
theorem dL_best_2 : decode cL_best 2 = .ok (.aload_n 0, 1) := by decide +kernel
theorem dL_best_3 : decode cL_best 3 = .ok (.iload_n 1, 1) := by decide +kernel
theorem dL_best_4 : decode cL_best 4 = .ok (.invokevirtual 87, 3) := by decide +kernel
theorem dL_best_7 : decode cL_best 7 = .ok (.i2l, 1) := by decide +kernel
theorem dL_best_8 : decode cL_best 8 = .ok (.lastore, 1) := by decide +kernel
theorem dL_best_9 : decode cL_best 9 = .ok (.goto 6, 3) := by decide +kernel
theorem dL_best_12 : decode cL_best 12 = .ok (.astore_n 3, 1) := by decide +kernel
theorem dL_best_13 : decode cL_best 13 = .ok (.iconst 1, 1) := by decide +kernel
theorem dL_best_14 : decode cL_best 14 = .ok (.ireturn, 1) := by decide +kernel
theorem dL_best_15 : decode cL_best 15 = .ok (.iconst 0, 1) := by decide +kernel
theorem dL_best_16 : decode cL_best 16 = .ok (.ireturn, 1) := by decide +kernel
theorem dL_text_0 : decode cL_text 0 = .ok (.aload_n 2, 1) := by decide +kernel
theorem dL_text_1 : decode cL_text 1 = .ok (.iconst 0, 1) := by decide +kernel
theorem dL_text_2 : decode cL_text 2 = .ok (.aload_n 0, 1) := by decide +kernel
theorem dL_text_3 : decode cL_text 3 = .ok (.iload_n 1, 1) := by decide +kernel
theorem dL_text_4 : decode cL_text 4 = .ok (.invokevirtual 90, 3) := by decide +kernel
theorem dL_text_7 : decode cL_text 7 = .ok (.i2l, 1) := by decide +kernel
theorem dL_text_8 : decode cL_text 8 = .ok (.lastore, 1) := by decide +kernel
theorem dL_text_9 : decode cL_text 9 = .ok (.goto 6, 3) := by decide +kernel
theorem dL_text_12 : decode cL_text 12 = .ok (.astore_n 3, 1) := by decide +kernel
theorem dL_text_13 : decode cL_text 13 = .ok (.iconst 1, 1) := by decide +kernel
theorem dL_text_14 : decode cL_text 14 = .ok (.ireturn, 1) := by decide +kernel
theorem dL_text_15 : decode cL_text 15 = .ok (.iconst 0, 1) := by decide +kernel
theorem dL_text_16 : decode cL_text 16 = .ok (.ireturn, 1) := by decide +kernel
theorem dL_law_0 : decode cL_law 0 = .ok (.new 8, 3) := by decide +kernel
theorem dL_law_3 : decode cL_law 3 = .ok (.dup, 1) := by decide +kernel
theorem dL_law_4 : decode cL_law 4 = .ok (.invokespecial 93, 3) := by decide +kernel
theorem dL_law_7 : decode cL_law 7 = .ok (.astore_n 1, 1) := by decide +kernel
theorem dL_law_8 : decode cL_law 8 = .ok (.new 94, 3) := by decide +kernel
theorem dL_law_11 : decode cL_law 11 = .ok (.dup, 1) := by decide +kernel
theorem dL_law_12 : decode cL_law 12 = .ok (.invokespecial 96, 3) := by decide +kernel
theorem dL_law_15 : decode cL_law 15 = .ok (.astore_n 2, 1) := by decide +kernel
theorem dL_law_16 : decode cL_law 16 = .ok (.iconst 1, 1) := by decide +kernel
theorem dL_law_17 : decode cL_law 17 = .ok (.newarray .long, 2) := by decide +kernel
theorem dL_law_19 : decode cL_law 19 = .ok (.astore_n 3, 1) := by decide +kernel
theorem dL_law_20 : decode cL_law 20 = .ok (.iconst 0, 1) := by decide +kernel
theorem dL_law_21 : decode cL_law 21 = .ok (.istore 4, 2) := by decide +kernel
theorem dL_law_23 : decode cL_law 23 = .ok (.iload 4, 2) := by decide +kernel
theorem dL_law_25 : decode cL_law 25 = .ok (.aload_n 0, 1) := by decide +kernel
theorem dL_law_26 : decode cL_law 26 = .ok (.arraylength, 1) := by decide +kernel
theorem dL_law_27 : decode cL_law 27 = .ok (.bipush 6, 2) := by decide +kernel
theorem dL_law_29 : decode cL_law 29 = .ok (.isub, 1) := by decide +kernel
theorem dL_law_30 : decode cL_law 30 = .ok (.if_icmp .gt 1864, 3) := by decide +kernel
theorem dL_law_33 : decode cL_law 33 = .ok (.aload_n 0, 1) := by decide +kernel
theorem dL_law_34 : decode cL_law 34 = .ok (.iload 4, 2) := by decide +kernel
theorem dL_law_36 : decode cL_law 36 = .ok (.iaload, 1) := by decide +kernel
theorem dL_law_37 : decode cL_law 37 = .ok (.bipush 63, 2) := by decide +kernel
theorem dL_law_39 : decode cL_law 39 = .ok (.iand, 1) := by decide +kernel
theorem dL_law_40 : decode cL_law 40 = .ok (.tableswitch 1848 0 33 #[152, 225, 250, 294, 307, 320, 356, 440, 508, 564, 620, 688, 732, 788, 856, 931, 999, 1024, 1092, 1148, 1204, 1272, 1297, 1365, 1433, 1501, 1526, 1582, 1662, 1718, 1774, 1799, 1810, 1823], 152) := by decide +kernel
theorem dL_law_192 : decode cL_law 192 = .ok (.aload_n 1, 1) := by decide +kernel
theorem dL_law_193 : decode cL_law 193 = .ok (.aload_n 0, 1) := by decide +kernel
theorem dL_law_194 : decode cL_law 194 = .ok (.iload 4, 2) := by decide +kernel
theorem dL_law_196 : decode cL_law 196 = .ok (.iconst 1, 1) := by decide +kernel
theorem dL_law_197 : decode cL_law 197 = .ok (.iadd, 1) := by decide +kernel
theorem dL_law_198 : decode cL_law 198 = .ok (.iaload, 1) := by decide +kernel
theorem dL_law_199 : decode cL_law 199 = .ok (.aload_n 0, 1) := by decide +kernel
theorem dL_law_200 : decode cL_law 200 = .ok (.iload 4, 2) := by decide +kernel
theorem dL_law_202 : decode cL_law 202 = .ok (.iconst 2, 1) := by decide +kernel
theorem dL_law_203 : decode cL_law 203 = .ok (.iadd, 1) := by decide +kernel
theorem dL_law_204 : decode cL_law 204 = .ok (.iaload, 1) := by decide +kernel
theorem dL_law_205 : decode cL_law 205 = .ok (.aload_n 0, 1) := by decide +kernel
theorem dL_law_206 : decode cL_law 206 = .ok (.iload 4, 2) := by decide +kernel
theorem dL_law_208 : decode cL_law 208 = .ok (.iconst 3, 1) := by decide +kernel
theorem dL_law_209 : decode cL_law 209 = .ok (.iadd, 1) := by decide +kernel
theorem dL_law_210 : decode cL_law 210 = .ok (.iaload, 1) := by decide +kernel
theorem dL_law_211 : decode cL_law 211 = .ok (.aload_n 0, 1) := by decide +kernel
theorem dL_law_212 : decode cL_law 212 = .ok (.iload 4, 2) := by decide +kernel
theorem dL_law_214 : decode cL_law 214 = .ok (.iconst 4, 1) := by decide +kernel
theorem dL_law_215 : decode cL_law 215 = .ok (.iadd, 1) := by decide +kernel
theorem dL_law_216 : decode cL_law 216 = .ok (.iaload, 1) := by decide +kernel
theorem dL_law_217 : decode cL_law 217 = .ok (.aload_n 0, 1) := by decide +kernel
theorem dL_law_218 : decode cL_law 218 = .ok (.iload 4, 2) := by decide +kernel
theorem dL_law_220 : decode cL_law 220 = .ok (.iconst 5, 1) := by decide +kernel
theorem dL_law_221 : decode cL_law 221 = .ok (.iadd, 1) := by decide +kernel
theorem dL_law_222 : decode cL_law 222 = .ok (.iaload, 1) := by decide +kernel
theorem dL_law_223 : decode cL_law 223 = .ok (.invokevirtual 97, 3) := by decide +kernel
theorem dL_law_226 : decode cL_law 226 = .ok (.aload_n 2, 1) := by decide +kernel
theorem dL_law_227 : decode cL_law 227 = .ok (.aload_n 0, 1) := by decide +kernel
theorem dL_law_228 : decode cL_law 228 = .ok (.iload 4, 2) := by decide +kernel
theorem dL_law_230 : decode cL_law 230 = .ok (.iconst 1, 1) := by decide +kernel
theorem dL_law_231 : decode cL_law 231 = .ok (.iadd, 1) := by decide +kernel
theorem dL_law_232 : decode cL_law 232 = .ok (.iaload, 1) := by decide +kernel
theorem dL_law_233 : decode cL_law 233 = .ok (.aload_n 0, 1) := by decide +kernel
theorem dL_law_234 : decode cL_law 234 = .ok (.iload 4, 2) := by decide +kernel
theorem dL_law_236 : decode cL_law 236 = .ok (.iconst 2, 1) := by decide +kernel
theorem dL_law_237 : decode cL_law 237 = .ok (.iadd, 1) := by decide +kernel
theorem dL_law_238 : decode cL_law 238 = .ok (.iaload, 1) := by decide +kernel
theorem dL_law_239 : decode cL_law 239 = .ok (.aload_n 0, 1) := by decide +kernel
theorem dL_law_240 : decode cL_law 240 = .ok (.iload 4, 2) := by decide +kernel
theorem dL_law_242 : decode cL_law 242 = .ok (.iconst 3, 1) := by decide +kernel
theorem dL_law_243 : decode cL_law 243 = .ok (.iadd, 1) := by decide +kernel
theorem dL_law_244 : decode cL_law 244 = .ok (.iaload, 1) := by decide +kernel
theorem dL_law_245 : decode cL_law 245 = .ok (.aload_n 0, 1) := by decide +kernel
theorem dL_law_246 : decode cL_law 246 = .ok (.iload 4, 2) := by decide +kernel
theorem dL_law_248 : decode cL_law 248 = .ok (.iconst 4, 1) := by decide +kernel
theorem dL_law_249 : decode cL_law 249 = .ok (.iadd, 1) := by decide +kernel
theorem dL_law_250 : decode cL_law 250 = .ok (.iaload, 1) := by decide +kernel
theorem dL_law_251 : decode cL_law 251 = .ok (.aload_n 0, 1) := by decide +kernel
theorem dL_law_252 : decode cL_law 252 = .ok (.iload 4, 2) := by decide +kernel
theorem dL_law_254 : decode cL_law 254 = .ok (.iconst 5, 1) := by decide +kernel
theorem dL_law_255 : decode cL_law 255 = .ok (.iadd, 1) := by decide +kernel
theorem dL_law_256 : decode cL_law 256 = .ok (.iaload, 1) := by decide +kernel
theorem dL_law_257 : decode cL_law 257 = .ok (.invokevirtual 101, 3) := by decide +kernel
theorem dL_law_260 : decode cL_law 260 = .ok (.if_icmp .eq 1628, 3) := by decide +kernel
theorem dL_law_263 : decode cL_law 263 = .ok (.iconst 0, 1) := by decide +kernel
theorem dL_law_264 : decode cL_law 264 = .ok (.ireturn, 1) := by decide +kernel
theorem dL_law_265 : decode cL_law 265 = .ok (.aload_n 1, 1) := by decide +kernel
theorem dL_law_266 : decode cL_law 266 = .ok (.aload_n 0, 1) := by decide +kernel
theorem dL_law_267 : decode cL_law 267 = .ok (.iload 4, 2) := by decide +kernel
theorem dL_law_269 : decode cL_law 269 = .ok (.iconst 1, 1) := by decide +kernel
theorem dL_law_270 : decode cL_law 270 = .ok (.iadd, 1) := by decide +kernel
theorem dL_law_271 : decode cL_law 271 = .ok (.iaload, 1) := by decide +kernel
theorem dL_law_272 : decode cL_law 272 = .ok (.invokevirtual 102, 3) := by decide +kernel
theorem dL_law_275 : decode cL_law 275 = .ok (.aload_n 2, 1) := by decide +kernel
theorem dL_law_276 : decode cL_law 276 = .ok (.aload_n 0, 1) := by decide +kernel
theorem dL_law_277 : decode cL_law 277 = .ok (.iload 4, 2) := by decide +kernel
theorem dL_law_279 : decode cL_law 279 = .ok (.iconst 1, 1) := by decide +kernel
theorem dL_law_280 : decode cL_law 280 = .ok (.iadd, 1) := by decide +kernel
theorem dL_law_281 : decode cL_law 281 = .ok (.iaload, 1) := by decide +kernel
theorem dL_law_282 : decode cL_law 282 = .ok (.invokevirtual 106, 3) := by decide +kernel
theorem dL_law_285 : decode cL_law 285 = .ok (.if_icmp .eq 1603, 3) := by decide +kernel
theorem dL_law_288 : decode cL_law 288 = .ok (.iconst 0, 1) := by decide +kernel
theorem dL_law_289 : decode cL_law 289 = .ok (.ireturn, 1) := by decide +kernel
theorem dL_law_290 : decode cL_law 290 = .ok (.aload_n 1, 1) := by decide +kernel
theorem dL_law_291 : decode cL_law 291 = .ok (.aload_n 3, 1) := by decide +kernel
theorem dL_law_292 : decode cL_law 292 = .ok (.invokestatic 107, 3) := by decide +kernel
theorem dL_law_295 : decode cL_law 295 = .ok (.istore 5, 2) := by decide +kernel
theorem dL_law_297 : decode cL_law 297 = .ok (.aload_n 2, 1) := by decide +kernel
theorem dL_law_298 : decode cL_law 298 = .ok (.invokevirtual 112, 3) := by decide +kernel
theorem dL_law_301 : decode cL_law 301 = .ok (.istore 6, 2) := by decide +kernel
theorem dL_law_303 : decode cL_law 303 = .ok (.aload_n 2, 1) := by decide +kernel
theorem dL_law_304 : decode cL_law 304 = .ok (.invokevirtual 113, 3) := by decide +kernel
theorem dL_law_307 : decode cL_law 307 = .ok (.iload 5, 2) := by decide +kernel
theorem dL_law_309 : decode cL_law 309 = .ok (.if_icmp .eq 5, 3) := by decide +kernel
theorem dL_law_312 : decode cL_law 312 = .ok (.iconst 0, 1) := by decide +kernel
theorem dL_law_313 : decode cL_law 313 = .ok (.ireturn, 1) := by decide +kernel
theorem dL_law_314 : decode cL_law 314 = .ok (.iload 5, 2) := by decide +kernel
theorem dL_law_316 : decode cL_law 316 = .ok (.ifCond .ne 15, 3) := by decide +kernel
theorem dL_law_319 : decode cL_law 319 = .ok (.aload_n 3, 1) := by decide +kernel
theorem dL_law_320 : decode cL_law 320 = .ok (.iconst 0, 1) := by decide +kernel
theorem dL_law_321 : decode cL_law 321 = .ok (.laload, 1) := by decide +kernel
theorem dL_law_322 : decode cL_law 322 = .ok (.iload 6, 2) := by decide +kernel
theorem dL_law_324 : decode cL_law 324 = .ok (.i2l, 1) := by decide +kernel
theorem dL_law_325 : decode cL_law 325 = .ok (.lcmp, 1) := by decide +kernel
theorem dL_law_326 : decode cL_law 326 = .ok (.ifCond .eq 5, 3) := by decide +kernel
theorem dL_law_329 : decode cL_law 329 = .ok (.iconst 0, 1) := by decide +kernel
theorem dL_law_330 : decode cL_law 330 = .ok (.ireturn, 1) := by decide +kernel
theorem dL_law_331 : decode cL_law 331 = .ok (.goto 1557, 3) := by decide +kernel
theorem dL_law_334 : decode cL_law 334 = .ok (.aload_n 1, 1) := by decide +kernel
theorem dL_law_335 : decode cL_law 335 = .ok (.invokevirtual 116, 3) := by decide +kernel
theorem dL_law_338 : decode cL_law 338 = .ok (.aload_n 2, 1) := by decide +kernel
theorem dL_law_339 : decode cL_law 339 = .ok (.invokevirtual 119, 3) := by decide +kernel
theorem dL_law_342 : decode cL_law 342 = .ok (.if_icmp .eq 1546, 3) := by decide +kernel
theorem dL_law_345 : decode cL_law 345 = .ok (.iconst 0, 1) := by decide +kernel
theorem dL_law_346 : decode cL_law 346 = .ok (.ireturn, 1) := by decide +kernel
theorem dL_law_347 : decode cL_law 347 = .ok (.aload_n 1, 1) := by decide +kernel
theorem dL_law_348 : decode cL_law 348 = .ok (.invokevirtual 120, 3) := by decide +kernel
theorem dL_law_351 : decode cL_law 351 = .ok (.aload_n 2, 1) := by decide +kernel
theorem dL_law_352 : decode cL_law 352 = .ok (.invokevirtual 123, 3) := by decide +kernel
theorem dL_law_355 : decode cL_law 355 = .ok (.if_icmp .eq 1533, 3) := by decide +kernel
theorem dL_law_358 : decode cL_law 358 = .ok (.iconst 0, 1) := by decide +kernel
theorem dL_law_359 : decode cL_law 359 = .ok (.ireturn, 1) := by decide +kernel
theorem dL_law_360 : decode cL_law 360 = .ok (.aload_n 1, 1) := by decide +kernel
theorem dL_law_361 : decode cL_law 361 = .ok (.aload_n 0, 1) := by decide +kernel
theorem dL_law_362 : decode cL_law 362 = .ok (.iload 4, 2) := by decide +kernel
theorem dL_law_364 : decode cL_law 364 = .ok (.iconst 1, 1) := by decide +kernel
theorem dL_law_365 : decode cL_law 365 = .ok (.iadd, 1) := by decide +kernel
theorem dL_law_366 : decode cL_law 366 = .ok (.iaload, 1) := by decide +kernel
theorem dL_law_367 : decode cL_law 367 = .ok (.invokestatic 124, 3) := by decide +kernel
theorem dL_law_370 : decode cL_law 370 = .ok (.istore 5, 2) := by decide +kernel
theorem dL_law_372 : decode cL_law 372 = .ok (.aload_n 2, 1) := by decide +kernel
theorem dL_law_373 : decode cL_law 373 = .ok (.aload_n 0, 1) := by decide +kernel
theorem dL_law_374 : decode cL_law 374 = .ok (.iload 4, 2) := by decide +kernel
theorem dL_law_376 : decode cL_law 376 = .ok (.iconst 1, 1) := by decide +kernel
theorem dL_law_377 : decode cL_law 377 = .ok (.iadd, 1) := by decide +kernel
theorem dL_law_378 : decode cL_law 378 = .ok (.iaload, 1) := by decide +kernel
theorem dL_law_379 : decode cL_law 379 = .ok (.invokevirtual 127, 3) := by decide +kernel
theorem dL_law_382 : decode cL_law 382 = .ok (.aload_n 2, 1) := by decide +kernel
theorem dL_law_383 : decode cL_law 383 = .ok (.invokevirtual 113, 3) := by decide +kernel
theorem dL_law_386 : decode cL_law 386 = .ok (.iload 5, 2) := by decide +kernel
theorem dL_law_388 : decode cL_law 388 = .ok (.if_icmp .eq 5, 3) := by decide +kernel
theorem dL_law_391 : decode cL_law 391 = .ok (.iconst 0, 1) := by decide +kernel
theorem dL_law_392 : decode cL_law 392 = .ok (.ireturn, 1) := by decide +kernel
theorem dL_law_393 : decode cL_law 393 = .ok (.goto 1495, 3) := by decide +kernel
theorem dL_law_396 : decode cL_law 396 = .ok (.aload_n 1, 1) := by decide +kernel
theorem dL_law_397 : decode cL_law 397 = .ok (.aload_n 0, 1) := by decide +kernel
theorem dL_law_398 : decode cL_law 398 = .ok (.iload 4, 2) := by decide +kernel
theorem dL_law_400 : decode cL_law 400 = .ok (.iconst 1, 1) := by decide +kernel
theorem dL_law_401 : decode cL_law 401 = .ok (.iadd, 1) := by decide +kernel
theorem dL_law_402 : decode cL_law 402 = .ok (.iaload, 1) := by decide +kernel
theorem dL_law_403 : decode cL_law 403 = .ok (.aload_n 0, 1) := by decide +kernel
theorem dL_law_404 : decode cL_law 404 = .ok (.iload 4, 2) := by decide +kernel
theorem dL_law_406 : decode cL_law 406 = .ok (.iconst 2, 1) := by decide +kernel
theorem dL_law_407 : decode cL_law 407 = .ok (.iadd, 1) := by decide +kernel
theorem dL_law_408 : decode cL_law 408 = .ok (.iaload, 1) := by decide +kernel
theorem dL_law_409 : decode cL_law 409 = .ok (.ifCond .eq 7, 3) := by decide +kernel
theorem dL_law_412 : decode cL_law 412 = .ok (.iconst 1, 1) := by decide +kernel
theorem dL_law_413 : decode cL_law 413 = .ok (.goto 4, 3) := by decide +kernel
theorem dL_law_416 : decode cL_law 416 = .ok (.iconst 0, 1) := by decide +kernel
theorem dL_law_417 : decode cL_law 417 = .ok (.aload_n 3, 1) := by decide +kernel
theorem dL_law_418 : decode cL_law 418 = .ok (.invokestatic 128, 3) := by decide +kernel
theorem dL_law_421 : decode cL_law 421 = .ok (.istore 5, 2) := by decide +kernel
theorem dL_law_423 : decode cL_law 423 = .ok (.aload_n 2, 1) := by decide +kernel
theorem dL_law_424 : decode cL_law 424 = .ok (.aload_n 0, 1) := by decide +kernel
theorem dL_law_425 : decode cL_law 425 = .ok (.iload 4, 2) := by decide +kernel
theorem dL_law_427 : decode cL_law 427 = .ok (.iconst 1, 1) := by decide +kernel
theorem dL_law_428 : decode cL_law 428 = .ok (.iadd, 1) := by decide +kernel
theorem dL_law_429 : decode cL_law 429 = .ok (.iaload, 1) := by decide +kernel
theorem dL_law_430 : decode cL_law 430 = .ok (.aload_n 0, 1) := by decide +kernel
theorem dL_law_431 : decode cL_law 431 = .ok (.iload 4, 2) := by decide +kernel
theorem dL_law_433 : decode cL_law 433 = .ok (.iconst 2, 1) := by decide +kernel
theorem dL_law_434 : decode cL_law 434 = .ok (.iadd, 1) := by decide +kernel
theorem dL_law_435 : decode cL_law 435 = .ok (.iaload, 1) := by decide +kernel
theorem dL_law_436 : decode cL_law 436 = .ok (.ifCond .eq 7, 3) := by decide +kernel
theorem dL_law_439 : decode cL_law 439 = .ok (.iconst 1, 1) := by decide +kernel
theorem dL_law_440 : decode cL_law 440 = .ok (.goto 4, 3) := by decide +kernel
theorem dL_law_443 : decode cL_law 443 = .ok (.iconst 0, 1) := by decide +kernel
theorem dL_law_444 : decode cL_law 444 = .ok (.invokevirtual 131, 3) := by decide +kernel
theorem dL_law_447 : decode cL_law 447 = .ok (.istore 6, 2) := by decide +kernel
theorem dL_law_449 : decode cL_law 449 = .ok (.aload_n 2, 1) := by decide +kernel
theorem dL_law_450 : decode cL_law 450 = .ok (.invokevirtual 113, 3) := by decide +kernel
theorem dL_law_453 : decode cL_law 453 = .ok (.iload 5, 2) := by decide +kernel
theorem dL_law_455 : decode cL_law 455 = .ok (.if_icmp .eq 5, 3) := by decide +kernel
theorem dL_law_458 : decode cL_law 458 = .ok (.iconst 0, 1) := by decide +kernel
theorem dL_law_459 : decode cL_law 459 = .ok (.ireturn, 1) := by decide +kernel
theorem dL_law_460 : decode cL_law 460 = .ok (.iload 5, 2) := by decide +kernel
theorem dL_law_462 : decode cL_law 462 = .ok (.ifCond .ne 15, 3) := by decide +kernel
theorem dL_law_465 : decode cL_law 465 = .ok (.aload_n 3, 1) := by decide +kernel
theorem dL_law_466 : decode cL_law 466 = .ok (.iconst 0, 1) := by decide +kernel
theorem dL_law_467 : decode cL_law 467 = .ok (.laload, 1) := by decide +kernel
theorem dL_law_468 : decode cL_law 468 = .ok (.iload 6, 2) := by decide +kernel
theorem dL_law_470 : decode cL_law 470 = .ok (.i2l, 1) := by decide +kernel
theorem dL_law_471 : decode cL_law 471 = .ok (.lcmp, 1) := by decide +kernel
theorem dL_law_472 : decode cL_law 472 = .ok (.ifCond .eq 5, 3) := by decide +kernel
theorem dL_law_475 : decode cL_law 475 = .ok (.iconst 0, 1) := by decide +kernel
theorem dL_law_476 : decode cL_law 476 = .ok (.ireturn, 1) := by decide +kernel
theorem dL_law_477 : decode cL_law 477 = .ok (.goto 1411, 3) := by decide +kernel
theorem dL_law_480 : decode cL_law 480 = .ok (.aload_n 1, 1) := by decide +kernel
theorem dL_law_481 : decode cL_law 481 = .ok (.aload_n 0, 1) := by decide +kernel
theorem dL_law_482 : decode cL_law 482 = .ok (.iload 4, 2) := by decide +kernel
theorem dL_law_484 : decode cL_law 484 = .ok (.iconst 1, 1) := by decide +kernel
theorem dL_law_485 : decode cL_law 485 = .ok (.iadd, 1) := by decide +kernel
theorem dL_law_486 : decode cL_law 486 = .ok (.iaload, 1) := by decide +kernel
theorem dL_law_487 : decode cL_law 487 = .ok (.aload_n 0, 1) := by decide +kernel
theorem dL_law_488 : decode cL_law 488 = .ok (.iload 4, 2) := by decide +kernel
theorem dL_law_490 : decode cL_law 490 = .ok (.iconst 2, 1) := by decide +kernel
theorem dL_law_491 : decode cL_law 491 = .ok (.iadd, 1) := by decide +kernel
theorem dL_law_492 : decode cL_law 492 = .ok (.iaload, 1) := by decide +kernel
theorem dL_law_493 : decode cL_law 493 = .ok (.aload_n 3, 1) := by decide +kernel
theorem dL_law_494 : decode cL_law 494 = .ok (.invokestatic 132, 3) := by decide +kernel
theorem dL_law_497 : decode cL_law 497 = .ok (.istore 5, 2) := by decide +kernel
theorem dL_law_499 : decode cL_law 499 = .ok (.aload_n 2, 1) := by decide +kernel
theorem dL_law_500 : decode cL_law 500 = .ok (.aload_n 0, 1) := by decide +kernel
theorem dL_law_501 : decode cL_law 501 = .ok (.iload 4, 2) := by decide +kernel
theorem dL_law_503 : decode cL_law 503 = .ok (.iconst 1, 1) := by decide +kernel
theorem dL_law_504 : decode cL_law 504 = .ok (.iadd, 1) := by decide +kernel
theorem dL_law_505 : decode cL_law 505 = .ok (.iaload, 1) := by decide +kernel
theorem dL_law_506 : decode cL_law 506 = .ok (.aload_n 0, 1) := by decide +kernel
theorem dL_law_507 : decode cL_law 507 = .ok (.iload 4, 2) := by decide +kernel
theorem dL_law_509 : decode cL_law 509 = .ok (.iconst 2, 1) := by decide +kernel
theorem dL_law_510 : decode cL_law 510 = .ok (.iadd, 1) := by decide +kernel
theorem dL_law_511 : decode cL_law 511 = .ok (.iaload, 1) := by decide +kernel
theorem dL_law_512 : decode cL_law 512 = .ok (.invokevirtual 135, 3) := by decide +kernel
theorem dL_law_515 : decode cL_law 515 = .ok (.istore 6, 2) := by decide +kernel
theorem dL_law_517 : decode cL_law 517 = .ok (.aload_n 2, 1) := by decide +kernel
theorem dL_law_518 : decode cL_law 518 = .ok (.invokevirtual 113, 3) := by decide +kernel
theorem dL_law_521 : decode cL_law 521 = .ok (.iload 5, 2) := by decide +kernel
theorem dL_law_523 : decode cL_law 523 = .ok (.if_icmp .eq 5, 3) := by decide +kernel
theorem dL_law_526 : decode cL_law 526 = .ok (.iconst 0, 1) := by decide +kernel
theorem dL_law_527 : decode cL_law 527 = .ok (.ireturn, 1) := by decide +kernel
theorem dL_law_528 : decode cL_law 528 = .ok (.iload 5, 2) := by decide +kernel
theorem dL_law_530 : decode cL_law 530 = .ok (.ifCond .ne 15, 3) := by decide +kernel
theorem dL_law_533 : decode cL_law 533 = .ok (.aload_n 3, 1) := by decide +kernel
theorem dL_law_534 : decode cL_law 534 = .ok (.iconst 0, 1) := by decide +kernel
theorem dL_law_535 : decode cL_law 535 = .ok (.laload, 1) := by decide +kernel
theorem dL_law_536 : decode cL_law 536 = .ok (.iload 6, 2) := by decide +kernel
theorem dL_law_538 : decode cL_law 538 = .ok (.i2l, 1) := by decide +kernel
theorem dL_law_539 : decode cL_law 539 = .ok (.lcmp, 1) := by decide +kernel
theorem dL_law_540 : decode cL_law 540 = .ok (.ifCond .eq 5, 3) := by decide +kernel
theorem dL_law_543 : decode cL_law 543 = .ok (.iconst 0, 1) := by decide +kernel
theorem dL_law_544 : decode cL_law 544 = .ok (.ireturn, 1) := by decide +kernel
theorem dL_law_545 : decode cL_law 545 = .ok (.goto 1343, 3) := by decide +kernel
theorem dL_law_548 : decode cL_law 548 = .ok (.aload_n 1, 1) := by decide +kernel
theorem dL_law_549 : decode cL_law 549 = .ok (.aload_n 0, 1) := by decide +kernel
theorem dL_law_550 : decode cL_law 550 = .ok (.iload 4, 2) := by decide +kernel
theorem dL_law_552 : decode cL_law 552 = .ok (.iconst 1, 1) := by decide +kernel
theorem dL_law_553 : decode cL_law 553 = .ok (.iadd, 1) := by decide +kernel
theorem dL_law_554 : decode cL_law 554 = .ok (.iaload, 1) := by decide +kernel
theorem dL_law_555 : decode cL_law 555 = .ok (.aload_n 3, 1) := by decide +kernel
theorem dL_law_556 : decode cL_law 556 = .ok (.invokestatic 136, 3) := by decide +kernel
theorem dL_law_559 : decode cL_law 559 = .ok (.istore 5, 2) := by decide +kernel
theorem dL_law_561 : decode cL_law 561 = .ok (.aload_n 2, 1) := by decide +kernel
theorem dL_law_562 : decode cL_law 562 = .ok (.aload_n 0, 1) := by decide +kernel
theorem dL_law_563 : decode cL_law 563 = .ok (.iload 4, 2) := by decide +kernel
theorem dL_law_565 : decode cL_law 565 = .ok (.iconst 1, 1) := by decide +kernel
theorem dL_law_566 : decode cL_law 566 = .ok (.iadd, 1) := by decide +kernel
theorem dL_law_567 : decode cL_law 567 = .ok (.iaload, 1) := by decide +kernel
theorem dL_law_568 : decode cL_law 568 = .ok (.invokevirtual 139, 3) := by decide +kernel
theorem dL_law_571 : decode cL_law 571 = .ok (.istore 6, 2) := by decide +kernel
theorem dL_law_573 : decode cL_law 573 = .ok (.aload_n 2, 1) := by decide +kernel
theorem dL_law_574 : decode cL_law 574 = .ok (.invokevirtual 113, 3) := by decide +kernel
theorem dL_law_577 : decode cL_law 577 = .ok (.iload 5, 2) := by decide +kernel
theorem dL_law_579 : decode cL_law 579 = .ok (.if_icmp .eq 5, 3) := by decide +kernel
theorem dL_law_582 : decode cL_law 582 = .ok (.iconst 0, 1) := by decide +kernel
theorem dL_law_583 : decode cL_law 583 = .ok (.ireturn, 1) := by decide +kernel
theorem dL_law_584 : decode cL_law 584 = .ok (.iload 5, 2) := by decide +kernel
theorem dL_law_586 : decode cL_law 586 = .ok (.ifCond .ne 15, 3) := by decide +kernel
theorem dL_law_589 : decode cL_law 589 = .ok (.aload_n 3, 1) := by decide +kernel
theorem dL_law_590 : decode cL_law 590 = .ok (.iconst 0, 1) := by decide +kernel
theorem dL_law_591 : decode cL_law 591 = .ok (.laload, 1) := by decide +kernel
theorem dL_law_592 : decode cL_law 592 = .ok (.iload 6, 2) := by decide +kernel
theorem dL_law_594 : decode cL_law 594 = .ok (.i2l, 1) := by decide +kernel
theorem dL_law_595 : decode cL_law 595 = .ok (.lcmp, 1) := by decide +kernel
theorem dL_law_596 : decode cL_law 596 = .ok (.ifCond .eq 5, 3) := by decide +kernel
theorem dL_law_599 : decode cL_law 599 = .ok (.iconst 0, 1) := by decide +kernel
theorem dL_law_600 : decode cL_law 600 = .ok (.ireturn, 1) := by decide +kernel
theorem dL_law_601 : decode cL_law 601 = .ok (.goto 1287, 3) := by decide +kernel
theorem dL_law_604 : decode cL_law 604 = .ok (.aload_n 1, 1) := by decide +kernel
theorem dL_law_605 : decode cL_law 605 = .ok (.aload_n 0, 1) := by decide +kernel
theorem dL_law_606 : decode cL_law 606 = .ok (.iload 4, 2) := by decide +kernel
theorem dL_law_608 : decode cL_law 608 = .ok (.iconst 1, 1) := by decide +kernel
theorem dL_law_609 : decode cL_law 609 = .ok (.iadd, 1) := by decide +kernel
theorem dL_law_610 : decode cL_law 610 = .ok (.iaload, 1) := by decide +kernel
theorem dL_law_611 : decode cL_law 611 = .ok (.aload_n 3, 1) := by decide +kernel
theorem dL_law_612 : decode cL_law 612 = .ok (.invokestatic 140, 3) := by decide +kernel
theorem dL_law_615 : decode cL_law 615 = .ok (.istore 5, 2) := by decide +kernel
theorem dL_law_617 : decode cL_law 617 = .ok (.aload_n 2, 1) := by decide +kernel
theorem dL_law_618 : decode cL_law 618 = .ok (.aload_n 0, 1) := by decide +kernel
theorem dL_law_619 : decode cL_law 619 = .ok (.iload 4, 2) := by decide +kernel
theorem dL_law_621 : decode cL_law 621 = .ok (.iconst 1, 1) := by decide +kernel
theorem dL_law_622 : decode cL_law 622 = .ok (.iadd, 1) := by decide +kernel
theorem dL_law_623 : decode cL_law 623 = .ok (.iaload, 1) := by decide +kernel
theorem dL_law_624 : decode cL_law 624 = .ok (.invokevirtual 142, 3) := by decide +kernel
theorem dL_law_627 : decode cL_law 627 = .ok (.istore 6, 2) := by decide +kernel
theorem dL_law_629 : decode cL_law 629 = .ok (.aload_n 2, 1) := by decide +kernel
theorem dL_law_630 : decode cL_law 630 = .ok (.invokevirtual 113, 3) := by decide +kernel
theorem dL_law_633 : decode cL_law 633 = .ok (.iload 5, 2) := by decide +kernel
theorem dL_law_635 : decode cL_law 635 = .ok (.if_icmp .eq 5, 3) := by decide +kernel
theorem dL_law_638 : decode cL_law 638 = .ok (.iconst 0, 1) := by decide +kernel
theorem dL_law_639 : decode cL_law 639 = .ok (.ireturn, 1) := by decide +kernel
theorem dL_law_640 : decode cL_law 640 = .ok (.iload 5, 2) := by decide +kernel
theorem dL_law_642 : decode cL_law 642 = .ok (.ifCond .ne 15, 3) := by decide +kernel
theorem dL_law_645 : decode cL_law 645 = .ok (.aload_n 3, 1) := by decide +kernel
theorem dL_law_646 : decode cL_law 646 = .ok (.iconst 0, 1) := by decide +kernel
theorem dL_law_647 : decode cL_law 647 = .ok (.laload, 1) := by decide +kernel
theorem dL_law_648 : decode cL_law 648 = .ok (.iload 6, 2) := by decide +kernel
theorem dL_law_650 : decode cL_law 650 = .ok (.i2l, 1) := by decide +kernel
theorem dL_law_651 : decode cL_law 651 = .ok (.lcmp, 1) := by decide +kernel
theorem dL_law_652 : decode cL_law 652 = .ok (.ifCond .eq 5, 3) := by decide +kernel
theorem dL_law_655 : decode cL_law 655 = .ok (.iconst 0, 1) := by decide +kernel
theorem dL_law_656 : decode cL_law 656 = .ok (.ireturn, 1) := by decide +kernel
theorem dL_law_657 : decode cL_law 657 = .ok (.goto 1231, 3) := by decide +kernel
theorem dL_law_660 : decode cL_law 660 = .ok (.aload_n 1, 1) := by decide +kernel
theorem dL_law_661 : decode cL_law 661 = .ok (.aload_n 0, 1) := by decide +kernel
theorem dL_law_662 : decode cL_law 662 = .ok (.iload 4, 2) := by decide +kernel
theorem dL_law_664 : decode cL_law 664 = .ok (.iconst 1, 1) := by decide +kernel
theorem dL_law_665 : decode cL_law 665 = .ok (.iadd, 1) := by decide +kernel
theorem dL_law_666 : decode cL_law 666 = .ok (.iaload, 1) := by decide +kernel
theorem dL_law_667 : decode cL_law 667 = .ok (.aload_n 0, 1) := by decide +kernel
theorem dL_law_668 : decode cL_law 668 = .ok (.iload 4, 2) := by decide +kernel
theorem dL_law_670 : decode cL_law 670 = .ok (.iconst 2, 1) := by decide +kernel
theorem dL_law_671 : decode cL_law 671 = .ok (.iadd, 1) := by decide +kernel
theorem dL_law_672 : decode cL_law 672 = .ok (.iaload, 1) := by decide +kernel
theorem dL_law_673 : decode cL_law 673 = .ok (.aload_n 3, 1) := by decide +kernel
theorem dL_law_674 : decode cL_law 674 = .ok (.invokestatic 143, 3) := by decide +kernel
theorem dL_law_677 : decode cL_law 677 = .ok (.istore 5, 2) := by decide +kernel
theorem dL_law_679 : decode cL_law 679 = .ok (.aload_n 2, 1) := by decide +kernel
theorem dL_law_680 : decode cL_law 680 = .ok (.aload_n 0, 1) := by decide +kernel
theorem dL_law_681 : decode cL_law 681 = .ok (.iload 4, 2) := by decide +kernel
theorem dL_law_683 : decode cL_law 683 = .ok (.iconst 1, 1) := by decide +kernel
theorem dL_law_684 : decode cL_law 684 = .ok (.iadd, 1) := by decide +kernel
theorem dL_law_685 : decode cL_law 685 = .ok (.iaload, 1) := by decide +kernel
theorem dL_law_686 : decode cL_law 686 = .ok (.aload_n 0, 1) := by decide +kernel
theorem dL_law_687 : decode cL_law 687 = .ok (.iload 4, 2) := by decide +kernel
theorem dL_law_689 : decode cL_law 689 = .ok (.iconst 2, 1) := by decide +kernel
theorem dL_law_690 : decode cL_law 690 = .ok (.iadd, 1) := by decide +kernel
theorem dL_law_691 : decode cL_law 691 = .ok (.iaload, 1) := by decide +kernel
theorem dL_law_692 : decode cL_law 692 = .ok (.invokevirtual 145, 3) := by decide +kernel
theorem dL_law_695 : decode cL_law 695 = .ok (.istore 6, 2) := by decide +kernel
theorem dL_law_697 : decode cL_law 697 = .ok (.aload_n 2, 1) := by decide +kernel
theorem dL_law_698 : decode cL_law 698 = .ok (.invokevirtual 113, 3) := by decide +kernel
theorem dL_law_701 : decode cL_law 701 = .ok (.iload 5, 2) := by decide +kernel
theorem dL_law_703 : decode cL_law 703 = .ok (.if_icmp .eq 5, 3) := by decide +kernel
theorem dL_law_706 : decode cL_law 706 = .ok (.iconst 0, 1) := by decide +kernel
theorem dL_law_707 : decode cL_law 707 = .ok (.ireturn, 1) := by decide +kernel
theorem dL_law_708 : decode cL_law 708 = .ok (.iload 5, 2) := by decide +kernel
theorem dL_law_710 : decode cL_law 710 = .ok (.ifCond .ne 15, 3) := by decide +kernel
theorem dL_law_713 : decode cL_law 713 = .ok (.aload_n 3, 1) := by decide +kernel
theorem dL_law_714 : decode cL_law 714 = .ok (.iconst 0, 1) := by decide +kernel
theorem dL_law_715 : decode cL_law 715 = .ok (.laload, 1) := by decide +kernel
theorem dL_law_716 : decode cL_law 716 = .ok (.iload 6, 2) := by decide +kernel
theorem dL_law_718 : decode cL_law 718 = .ok (.i2l, 1) := by decide +kernel
theorem dL_law_719 : decode cL_law 719 = .ok (.lcmp, 1) := by decide +kernel
theorem dL_law_720 : decode cL_law 720 = .ok (.ifCond .eq 5, 3) := by decide +kernel
theorem dL_law_723 : decode cL_law 723 = .ok (.iconst 0, 1) := by decide +kernel
theorem dL_law_724 : decode cL_law 724 = .ok (.ireturn, 1) := by decide +kernel
theorem dL_law_725 : decode cL_law 725 = .ok (.goto 1163, 3) := by decide +kernel
theorem dL_law_728 : decode cL_law 728 = .ok (.aload_n 1, 1) := by decide +kernel
theorem dL_law_729 : decode cL_law 729 = .ok (.aload_n 3, 1) := by decide +kernel
theorem dL_law_730 : decode cL_law 730 = .ok (.invokestatic 146, 3) := by decide +kernel
theorem dL_law_733 : decode cL_law 733 = .ok (.istore 5, 2) := by decide +kernel
theorem dL_law_735 : decode cL_law 735 = .ok (.aload_n 2, 1) := by decide +kernel
theorem dL_law_736 : decode cL_law 736 = .ok (.invokevirtual 148, 3) := by decide +kernel
theorem dL_law_739 : decode cL_law 739 = .ok (.istore 6, 2) := by decide +kernel
theorem dL_law_741 : decode cL_law 741 = .ok (.aload_n 2, 1) := by decide +kernel
theorem dL_law_742 : decode cL_law 742 = .ok (.invokevirtual 113, 3) := by decide +kernel
theorem dL_law_745 : decode cL_law 745 = .ok (.iload 5, 2) := by decide +kernel
theorem dL_law_747 : decode cL_law 747 = .ok (.if_icmp .eq 5, 3) := by decide +kernel
theorem dL_law_750 : decode cL_law 750 = .ok (.iconst 0, 1) := by decide +kernel
theorem dL_law_751 : decode cL_law 751 = .ok (.ireturn, 1) := by decide +kernel
theorem dL_law_752 : decode cL_law 752 = .ok (.iload 5, 2) := by decide +kernel
theorem dL_law_754 : decode cL_law 754 = .ok (.ifCond .ne 15, 3) := by decide +kernel
theorem dL_law_757 : decode cL_law 757 = .ok (.aload_n 3, 1) := by decide +kernel
theorem dL_law_758 : decode cL_law 758 = .ok (.iconst 0, 1) := by decide +kernel
theorem dL_law_759 : decode cL_law 759 = .ok (.laload, 1) := by decide +kernel
theorem dL_law_760 : decode cL_law 760 = .ok (.iload 6, 2) := by decide +kernel
theorem dL_law_762 : decode cL_law 762 = .ok (.i2l, 1) := by decide +kernel
theorem dL_law_763 : decode cL_law 763 = .ok (.lcmp, 1) := by decide +kernel
theorem dL_law_764 : decode cL_law 764 = .ok (.ifCond .eq 5, 3) := by decide +kernel
theorem dL_law_767 : decode cL_law 767 = .ok (.iconst 0, 1) := by decide +kernel
theorem dL_law_768 : decode cL_law 768 = .ok (.ireturn, 1) := by decide +kernel
theorem dL_law_769 : decode cL_law 769 = .ok (.goto 1119, 3) := by decide +kernel
theorem dL_law_772 : decode cL_law 772 = .ok (.aload_n 1, 1) := by decide +kernel
theorem dL_law_773 : decode cL_law 773 = .ok (.aload_n 0, 1) := by decide +kernel
theorem dL_law_774 : decode cL_law 774 = .ok (.iload 4, 2) := by decide +kernel
theorem dL_law_776 : decode cL_law 776 = .ok (.iconst 1, 1) := by decide +kernel
theorem dL_law_777 : decode cL_law 777 = .ok (.iadd, 1) := by decide +kernel
theorem dL_law_778 : decode cL_law 778 = .ok (.iaload, 1) := by decide +kernel
theorem dL_law_779 : decode cL_law 779 = .ok (.aload_n 3, 1) := by decide +kernel
theorem dL_law_780 : decode cL_law 780 = .ok (.invokestatic 149, 3) := by decide +kernel
theorem dL_law_783 : decode cL_law 783 = .ok (.istore 5, 2) := by decide +kernel
theorem dL_law_785 : decode cL_law 785 = .ok (.aload_n 2, 1) := by decide +kernel
theorem dL_law_786 : decode cL_law 786 = .ok (.aload_n 0, 1) := by decide +kernel
theorem dL_law_787 : decode cL_law 787 = .ok (.iload 4, 2) := by decide +kernel
theorem dL_law_789 : decode cL_law 789 = .ok (.iconst 1, 1) := by decide +kernel
theorem dL_law_790 : decode cL_law 790 = .ok (.iadd, 1) := by decide +kernel
theorem dL_law_791 : decode cL_law 791 = .ok (.iaload, 1) := by decide +kernel
theorem dL_law_792 : decode cL_law 792 = .ok (.invokevirtual 151, 3) := by decide +kernel
theorem dL_law_795 : decode cL_law 795 = .ok (.istore 6, 2) := by decide +kernel
theorem dL_law_797 : decode cL_law 797 = .ok (.aload_n 2, 1) := by decide +kernel
theorem dL_law_798 : decode cL_law 798 = .ok (.invokevirtual 113, 3) := by decide +kernel
theorem dL_law_801 : decode cL_law 801 = .ok (.iload 5, 2) := by decide +kernel
theorem dL_law_803 : decode cL_law 803 = .ok (.if_icmp .eq 5, 3) := by decide +kernel
theorem dL_law_806 : decode cL_law 806 = .ok (.iconst 0, 1) := by decide +kernel
theorem dL_law_807 : decode cL_law 807 = .ok (.ireturn, 1) := by decide +kernel
theorem dL_law_808 : decode cL_law 808 = .ok (.iload 5, 2) := by decide +kernel
theorem dL_law_810 : decode cL_law 810 = .ok (.ifCond .ne 15, 3) := by decide +kernel
theorem dL_law_813 : decode cL_law 813 = .ok (.aload_n 3, 1) := by decide +kernel
theorem dL_law_814 : decode cL_law 814 = .ok (.iconst 0, 1) := by decide +kernel
theorem dL_law_815 : decode cL_law 815 = .ok (.laload, 1) := by decide +kernel
theorem dL_law_816 : decode cL_law 816 = .ok (.iload 6, 2) := by decide +kernel
theorem dL_law_818 : decode cL_law 818 = .ok (.i2l, 1) := by decide +kernel
theorem dL_law_819 : decode cL_law 819 = .ok (.lcmp, 1) := by decide +kernel
theorem dL_law_820 : decode cL_law 820 = .ok (.ifCond .eq 5, 3) := by decide +kernel
theorem dL_law_823 : decode cL_law 823 = .ok (.iconst 0, 1) := by decide +kernel
theorem dL_law_824 : decode cL_law 824 = .ok (.ireturn, 1) := by decide +kernel
theorem dL_law_825 : decode cL_law 825 = .ok (.goto 1063, 3) := by decide +kernel
theorem dL_law_828 : decode cL_law 828 = .ok (.aload_n 1, 1) := by decide +kernel
theorem dL_law_829 : decode cL_law 829 = .ok (.aload_n 0, 1) := by decide +kernel
theorem dL_law_830 : decode cL_law 830 = .ok (.iload 4, 2) := by decide +kernel
theorem dL_law_832 : decode cL_law 832 = .ok (.iconst 1, 1) := by decide +kernel
theorem dL_law_833 : decode cL_law 833 = .ok (.iadd, 1) := by decide +kernel
theorem dL_law_834 : decode cL_law 834 = .ok (.iaload, 1) := by decide +kernel
theorem dL_law_835 : decode cL_law 835 = .ok (.aload_n 0, 1) := by decide +kernel
theorem dL_law_836 : decode cL_law 836 = .ok (.iload 4, 2) := by decide +kernel
theorem dL_law_838 : decode cL_law 838 = .ok (.iconst 2, 1) := by decide +kernel
theorem dL_law_839 : decode cL_law 839 = .ok (.iadd, 1) := by decide +kernel
theorem dL_law_840 : decode cL_law 840 = .ok (.iaload, 1) := by decide +kernel
theorem dL_law_841 : decode cL_law 841 = .ok (.aload_n 3, 1) := by decide +kernel
theorem dL_law_842 : decode cL_law 842 = .ok (.invokestatic 152, 3) := by decide +kernel
theorem dL_law_845 : decode cL_law 845 = .ok (.istore 5, 2) := by decide +kernel
theorem dL_law_847 : decode cL_law 847 = .ok (.aload_n 2, 1) := by decide +kernel
theorem dL_law_848 : decode cL_law 848 = .ok (.aload_n 0, 1) := by decide +kernel
theorem dL_law_849 : decode cL_law 849 = .ok (.iload 4, 2) := by decide +kernel
theorem dL_law_851 : decode cL_law 851 = .ok (.iconst 1, 1) := by decide +kernel
theorem dL_law_852 : decode cL_law 852 = .ok (.iadd, 1) := by decide +kernel
theorem dL_law_853 : decode cL_law 853 = .ok (.iaload, 1) := by decide +kernel
theorem dL_law_854 : decode cL_law 854 = .ok (.aload_n 0, 1) := by decide +kernel
theorem dL_law_855 : decode cL_law 855 = .ok (.iload 4, 2) := by decide +kernel
theorem dL_law_857 : decode cL_law 857 = .ok (.iconst 2, 1) := by decide +kernel
theorem dL_law_858 : decode cL_law 858 = .ok (.iadd, 1) := by decide +kernel
theorem dL_law_859 : decode cL_law 859 = .ok (.iaload, 1) := by decide +kernel
theorem dL_law_860 : decode cL_law 860 = .ok (.invokevirtual 154, 3) := by decide +kernel
theorem dL_law_863 : decode cL_law 863 = .ok (.istore 6, 2) := by decide +kernel
theorem dL_law_865 : decode cL_law 865 = .ok (.aload_n 2, 1) := by decide +kernel
theorem dL_law_866 : decode cL_law 866 = .ok (.invokevirtual 113, 3) := by decide +kernel
theorem dL_law_869 : decode cL_law 869 = .ok (.iload 5, 2) := by decide +kernel
theorem dL_law_871 : decode cL_law 871 = .ok (.if_icmp .eq 5, 3) := by decide +kernel
theorem dL_law_874 : decode cL_law 874 = .ok (.iconst 0, 1) := by decide +kernel
theorem dL_law_875 : decode cL_law 875 = .ok (.ireturn, 1) := by decide +kernel
theorem dL_law_876 : decode cL_law 876 = .ok (.iload 5, 2) := by decide +kernel
theorem dL_law_878 : decode cL_law 878 = .ok (.ifCond .ne 15, 3) := by decide +kernel
theorem dL_law_881 : decode cL_law 881 = .ok (.aload_n 3, 1) := by decide +kernel
theorem dL_law_882 : decode cL_law 882 = .ok (.iconst 0, 1) := by decide +kernel
theorem dL_law_883 : decode cL_law 883 = .ok (.laload, 1) := by decide +kernel
theorem dL_law_884 : decode cL_law 884 = .ok (.iload 6, 2) := by decide +kernel
theorem dL_law_886 : decode cL_law 886 = .ok (.i2l, 1) := by decide +kernel
theorem dL_law_887 : decode cL_law 887 = .ok (.lcmp, 1) := by decide +kernel
theorem dL_law_888 : decode cL_law 888 = .ok (.ifCond .eq 5, 3) := by decide +kernel
theorem dL_law_891 : decode cL_law 891 = .ok (.iconst 0, 1) := by decide +kernel
theorem dL_law_892 : decode cL_law 892 = .ok (.ireturn, 1) := by decide +kernel
theorem dL_law_893 : decode cL_law 893 = .ok (.goto 995, 3) := by decide +kernel
theorem dL_law_896 : decode cL_law 896 = .ok (.aload_n 1, 1) := by decide +kernel
theorem dL_law_897 : decode cL_law 897 = .ok (.aload_n 0, 1) := by decide +kernel
theorem dL_law_898 : decode cL_law 898 = .ok (.iload 4, 2) := by decide +kernel
theorem dL_law_900 : decode cL_law 900 = .ok (.iconst 1, 1) := by decide +kernel
theorem dL_law_901 : decode cL_law 901 = .ok (.iadd, 1) := by decide +kernel
theorem dL_law_902 : decode cL_law 902 = .ok (.iaload, 1) := by decide +kernel
theorem dL_law_903 : decode cL_law 903 = .ok (.aload_n 0, 1) := by decide +kernel
theorem dL_law_904 : decode cL_law 904 = .ok (.iload 4, 2) := by decide +kernel
theorem dL_law_906 : decode cL_law 906 = .ok (.iconst 2, 1) := by decide +kernel
theorem dL_law_907 : decode cL_law 907 = .ok (.iadd, 1) := by decide +kernel
theorem dL_law_908 : decode cL_law 908 = .ok (.iaload, 1) := by decide +kernel
theorem dL_law_909 : decode cL_law 909 = .ok (.aload_n 3, 1) := by decide +kernel
theorem dL_law_910 : decode cL_law 910 = .ok (.invokestatic 155, 3) := by decide +kernel
theorem dL_law_913 : decode cL_law 913 = .ok (.istore 5, 2) := by decide +kernel
theorem dL_law_915 : decode cL_law 915 = .ok (.aload_n 2, 1) := by decide +kernel
theorem dL_law_916 : decode cL_law 916 = .ok (.aload_n 0, 1) := by decide +kernel
theorem dL_law_917 : decode cL_law 917 = .ok (.iload 4, 2) := by decide +kernel
theorem dL_law_919 : decode cL_law 919 = .ok (.iconst 1, 1) := by decide +kernel
theorem dL_law_920 : decode cL_law 920 = .ok (.iadd, 1) := by decide +kernel
theorem dL_law_921 : decode cL_law 921 = .ok (.iaload, 1) := by decide +kernel
theorem dL_law_922 : decode cL_law 922 = .ok (.aload_n 0, 1) := by decide +kernel
theorem dL_law_923 : decode cL_law 923 = .ok (.iload 4, 2) := by decide +kernel
theorem dL_law_925 : decode cL_law 925 = .ok (.iconst 2, 1) := by decide +kernel
theorem dL_law_926 : decode cL_law 926 = .ok (.iadd, 1) := by decide +kernel
theorem dL_law_927 : decode cL_law 927 = .ok (.iaload, 1) := by decide +kernel
theorem dL_law_928 : decode cL_law 928 = .ok (.invokevirtual 157, 3) := by decide +kernel
theorem dL_law_931 : decode cL_law 931 = .ok (.istore 6, 2) := by decide +kernel
theorem dL_law_933 : decode cL_law 933 = .ok (.aload_n 2, 1) := by decide +kernel
theorem dL_law_934 : decode cL_law 934 = .ok (.invokevirtual 113, 3) := by decide +kernel
theorem dL_law_937 : decode cL_law 937 = .ok (.iload 5, 2) := by decide +kernel
theorem dL_law_939 : decode cL_law 939 = .ok (.if_icmp .eq 5, 3) := by decide +kernel
theorem dL_law_942 : decode cL_law 942 = .ok (.iconst 0, 1) := by decide +kernel
theorem dL_law_943 : decode cL_law 943 = .ok (.ireturn, 1) := by decide +kernel
theorem dL_law_944 : decode cL_law 944 = .ok (.iload 5, 2) := by decide +kernel
theorem dL_law_946 : decode cL_law 946 = .ok (.ifCond .ne 22, 3) := by decide +kernel
theorem dL_law_949 : decode cL_law 949 = .ok (.aload_n 3, 1) := by decide +kernel
theorem dL_law_950 : decode cL_law 950 = .ok (.iconst 0, 1) := by decide +kernel
theorem dL_law_951 : decode cL_law 951 = .ok (.laload, 1) := by decide +kernel
theorem dL_law_952 : decode cL_law 952 = .ok (.iload 6, 2) := by decide +kernel
theorem dL_law_954 : decode cL_law 954 = .ok (.ifCond .eq 7, 3) := by decide +kernel
theorem dL_law_957 : decode cL_law 957 = .ok (.lconst 1, 1) := by decide +kernel
theorem dL_law_958 : decode cL_law 958 = .ok (.goto 4, 3) := by decide +kernel
theorem dL_law_961 : decode cL_law 961 = .ok (.lconst 0, 1) := by decide +kernel
theorem dL_law_962 : decode cL_law 962 = .ok (.lcmp, 1) := by decide +kernel
theorem dL_law_963 : decode cL_law 963 = .ok (.ifCond .eq 5, 3) := by decide +kernel
theorem dL_law_966 : decode cL_law 966 = .ok (.iconst 0, 1) := by decide +kernel
theorem dL_law_967 : decode cL_law 967 = .ok (.ireturn, 1) := by decide +kernel
theorem dL_law_968 : decode cL_law 968 = .ok (.goto 920, 3) := by decide +kernel
theorem dL_law_971 : decode cL_law 971 = .ok (.aload_n 1, 1) := by decide +kernel
theorem dL_law_972 : decode cL_law 972 = .ok (.aload_n 0, 1) := by decide +kernel
theorem dL_law_973 : decode cL_law 973 = .ok (.iload 4, 2) := by decide +kernel
theorem dL_law_975 : decode cL_law 975 = .ok (.iconst 1, 1) := by decide +kernel
theorem dL_law_976 : decode cL_law 976 = .ok (.iadd, 1) := by decide +kernel
theorem dL_law_977 : decode cL_law 977 = .ok (.iaload, 1) := by decide +kernel
theorem dL_law_978 : decode cL_law 978 = .ok (.aload_n 0, 1) := by decide +kernel
theorem dL_law_979 : decode cL_law 979 = .ok (.iload 4, 2) := by decide +kernel
theorem dL_law_981 : decode cL_law 981 = .ok (.iconst 2, 1) := by decide +kernel
theorem dL_law_982 : decode cL_law 982 = .ok (.iadd, 1) := by decide +kernel
theorem dL_law_983 : decode cL_law 983 = .ok (.iaload, 1) := by decide +kernel
theorem dL_law_984 : decode cL_law 984 = .ok (.aload_n 3, 1) := by decide +kernel
theorem dL_law_985 : decode cL_law 985 = .ok (.invokestatic 158, 3) := by decide +kernel
theorem dL_law_988 : decode cL_law 988 = .ok (.istore 5, 2) := by decide +kernel
theorem dL_law_990 : decode cL_law 990 = .ok (.aload_n 2, 1) := by decide +kernel
theorem dL_law_991 : decode cL_law 991 = .ok (.aload_n 0, 1) := by decide +kernel
theorem dL_law_992 : decode cL_law 992 = .ok (.iload 4, 2) := by decide +kernel
theorem dL_law_994 : decode cL_law 994 = .ok (.iconst 1, 1) := by decide +kernel
theorem dL_law_995 : decode cL_law 995 = .ok (.iadd, 1) := by decide +kernel
theorem dL_law_996 : decode cL_law 996 = .ok (.iaload, 1) := by decide +kernel
theorem dL_law_997 : decode cL_law 997 = .ok (.aload_n 0, 1) := by decide +kernel
theorem dL_law_998 : decode cL_law 998 = .ok (.iload 4, 2) := by decide +kernel
theorem dL_law_1000 : decode cL_law 1000 = .ok (.iconst 2, 1) := by decide +kernel
theorem dL_law_1001 : decode cL_law 1001 = .ok (.iadd, 1) := by decide +kernel
theorem dL_law_1002 : decode cL_law 1002 = .ok (.iaload, 1) := by decide +kernel
theorem dL_law_1003 : decode cL_law 1003 = .ok (.invokevirtual 160, 3) := by decide +kernel
theorem dL_law_1006 : decode cL_law 1006 = .ok (.istore 6, 2) := by decide +kernel
theorem dL_law_1008 : decode cL_law 1008 = .ok (.aload_n 2, 1) := by decide +kernel
theorem dL_law_1009 : decode cL_law 1009 = .ok (.invokevirtual 113, 3) := by decide +kernel
theorem dL_law_1012 : decode cL_law 1012 = .ok (.iload 5, 2) := by decide +kernel
theorem dL_law_1014 : decode cL_law 1014 = .ok (.if_icmp .eq 5, 3) := by decide +kernel
theorem dL_law_1017 : decode cL_law 1017 = .ok (.iconst 0, 1) := by decide +kernel
theorem dL_law_1018 : decode cL_law 1018 = .ok (.ireturn, 1) := by decide +kernel
theorem dL_law_1019 : decode cL_law 1019 = .ok (.iload 5, 2) := by decide +kernel
theorem dL_law_1021 : decode cL_law 1021 = .ok (.ifCond .ne 15, 3) := by decide +kernel
theorem dL_law_1024 : decode cL_law 1024 = .ok (.aload_n 3, 1) := by decide +kernel
theorem dL_law_1025 : decode cL_law 1025 = .ok (.iconst 0, 1) := by decide +kernel
theorem dL_law_1026 : decode cL_law 1026 = .ok (.laload, 1) := by decide +kernel
theorem dL_law_1027 : decode cL_law 1027 = .ok (.iload 6, 2) := by decide +kernel
theorem dL_law_1029 : decode cL_law 1029 = .ok (.i2l, 1) := by decide +kernel
theorem dL_law_1030 : decode cL_law 1030 = .ok (.lcmp, 1) := by decide +kernel
theorem dL_law_1031 : decode cL_law 1031 = .ok (.ifCond .eq 5, 3) := by decide +kernel
theorem dL_law_1034 : decode cL_law 1034 = .ok (.iconst 0, 1) := by decide +kernel
theorem dL_law_1035 : decode cL_law 1035 = .ok (.ireturn, 1) := by decide +kernel
theorem dL_law_1036 : decode cL_law 1036 = .ok (.goto 852, 3) := by decide +kernel
theorem dL_law_1039 : decode cL_law 1039 = .ok (.aload_n 1, 1) := by decide +kernel
theorem dL_law_1040 : decode cL_law 1040 = .ok (.aload_n 0, 1) := by decide +kernel
theorem dL_law_1041 : decode cL_law 1041 = .ok (.iload 4, 2) := by decide +kernel
theorem dL_law_1043 : decode cL_law 1043 = .ok (.iconst 1, 1) := by decide +kernel
theorem dL_law_1044 : decode cL_law 1044 = .ok (.iadd, 1) := by decide +kernel
theorem dL_law_1045 : decode cL_law 1045 = .ok (.iaload, 1) := by decide +kernel
theorem dL_law_1046 : decode cL_law 1046 = .ok (.invokevirtual 161, 3) := by decide +kernel
theorem dL_law_1049 : decode cL_law 1049 = .ok (.aload_n 2, 1) := by decide +kernel
theorem dL_law_1050 : decode cL_law 1050 = .ok (.aload_n 0, 1) := by decide +kernel
theorem dL_law_1051 : decode cL_law 1051 = .ok (.iload 4, 2) := by decide +kernel
theorem dL_law_1053 : decode cL_law 1053 = .ok (.iconst 1, 1) := by decide +kernel
theorem dL_law_1054 : decode cL_law 1054 = .ok (.iadd, 1) := by decide +kernel
theorem dL_law_1055 : decode cL_law 1055 = .ok (.iaload, 1) := by decide +kernel
theorem dL_law_1056 : decode cL_law 1056 = .ok (.invokevirtual 164, 3) := by decide +kernel
theorem dL_law_1059 : decode cL_law 1059 = .ok (.if_icmp .eq 829, 3) := by decide +kernel
theorem dL_law_1062 : decode cL_law 1062 = .ok (.iconst 0, 1) := by decide +kernel
theorem dL_law_1063 : decode cL_law 1063 = .ok (.ireturn, 1) := by decide +kernel
theorem dL_law_1064 : decode cL_law 1064 = .ok (.aload_n 1, 1) := by decide +kernel
theorem dL_law_1065 : decode cL_law 1065 = .ok (.aload_n 0, 1) := by decide +kernel
theorem dL_law_1066 : decode cL_law 1066 = .ok (.iload 4, 2) := by decide +kernel
theorem dL_law_1068 : decode cL_law 1068 = .ok (.iconst 1, 1) := by decide +kernel
theorem dL_law_1069 : decode cL_law 1069 = .ok (.iadd, 1) := by decide +kernel
theorem dL_law_1070 : decode cL_law 1070 = .ok (.iaload, 1) := by decide +kernel
theorem dL_law_1071 : decode cL_law 1071 = .ok (.aload_n 0, 1) := by decide +kernel
theorem dL_law_1072 : decode cL_law 1072 = .ok (.iload 4, 2) := by decide +kernel
theorem dL_law_1074 : decode cL_law 1074 = .ok (.iconst 2, 1) := by decide +kernel
theorem dL_law_1075 : decode cL_law 1075 = .ok (.iadd, 1) := by decide +kernel
theorem dL_law_1076 : decode cL_law 1076 = .ok (.iaload, 1) := by decide +kernel
theorem dL_law_1077 : decode cL_law 1077 = .ok (.aload_n 3, 1) := by decide +kernel
theorem dL_law_1078 : decode cL_law 1078 = .ok (.invokestatic 165, 3) := by decide +kernel
theorem dL_law_1081 : decode cL_law 1081 = .ok (.istore 5, 2) := by decide +kernel
theorem dL_law_1083 : decode cL_law 1083 = .ok (.aload_n 2, 1) := by decide +kernel
theorem dL_law_1084 : decode cL_law 1084 = .ok (.aload_n 0, 1) := by decide +kernel
theorem dL_law_1085 : decode cL_law 1085 = .ok (.iload 4, 2) := by decide +kernel
theorem dL_law_1087 : decode cL_law 1087 = .ok (.iconst 1, 1) := by decide +kernel
theorem dL_law_1088 : decode cL_law 1088 = .ok (.iadd, 1) := by decide +kernel
theorem dL_law_1089 : decode cL_law 1089 = .ok (.iaload, 1) := by decide +kernel
theorem dL_law_1090 : decode cL_law 1090 = .ok (.aload_n 0, 1) := by decide +kernel
theorem dL_law_1091 : decode cL_law 1091 = .ok (.iload 4, 2) := by decide +kernel
theorem dL_law_1093 : decode cL_law 1093 = .ok (.iconst 2, 1) := by decide +kernel
theorem dL_law_1094 : decode cL_law 1094 = .ok (.iadd, 1) := by decide +kernel
theorem dL_law_1095 : decode cL_law 1095 = .ok (.iaload, 1) := by decide +kernel
theorem dL_law_1096 : decode cL_law 1096 = .ok (.invokevirtual 167, 3) := by decide +kernel
theorem dL_law_1099 : decode cL_law 1099 = .ok (.istore 6, 2) := by decide +kernel
theorem dL_law_1101 : decode cL_law 1101 = .ok (.aload_n 2, 1) := by decide +kernel
theorem dL_law_1102 : decode cL_law 1102 = .ok (.invokevirtual 113, 3) := by decide +kernel
theorem dL_law_1105 : decode cL_law 1105 = .ok (.iload 5, 2) := by decide +kernel
theorem dL_law_1107 : decode cL_law 1107 = .ok (.if_icmp .eq 5, 3) := by decide +kernel
theorem dL_law_1110 : decode cL_law 1110 = .ok (.iconst 0, 1) := by decide +kernel
theorem dL_law_1111 : decode cL_law 1111 = .ok (.ireturn, 1) := by decide +kernel
theorem dL_law_1112 : decode cL_law 1112 = .ok (.iload 5, 2) := by decide +kernel
theorem dL_law_1114 : decode cL_law 1114 = .ok (.ifCond .ne 15, 3) := by decide +kernel
theorem dL_law_1117 : decode cL_law 1117 = .ok (.aload_n 3, 1) := by decide +kernel
theorem dL_law_1118 : decode cL_law 1118 = .ok (.iconst 0, 1) := by decide +kernel
theorem dL_law_1119 : decode cL_law 1119 = .ok (.laload, 1) := by decide +kernel
theorem dL_law_1120 : decode cL_law 1120 = .ok (.iload 6, 2) := by decide +kernel
theorem dL_law_1122 : decode cL_law 1122 = .ok (.i2l, 1) := by decide +kernel
theorem dL_law_1123 : decode cL_law 1123 = .ok (.lcmp, 1) := by decide +kernel
theorem dL_law_1124 : decode cL_law 1124 = .ok (.ifCond .eq 5, 3) := by decide +kernel
theorem dL_law_1127 : decode cL_law 1127 = .ok (.iconst 0, 1) := by decide +kernel
theorem dL_law_1128 : decode cL_law 1128 = .ok (.ireturn, 1) := by decide +kernel
theorem dL_law_1129 : decode cL_law 1129 = .ok (.goto 759, 3) := by decide +kernel
theorem dL_law_1132 : decode cL_law 1132 = .ok (.aload_n 1, 1) := by decide +kernel
theorem dL_law_1133 : decode cL_law 1133 = .ok (.aload_n 0, 1) := by decide +kernel
theorem dL_law_1134 : decode cL_law 1134 = .ok (.iload 4, 2) := by decide +kernel
theorem dL_law_1136 : decode cL_law 1136 = .ok (.iconst 1, 1) := by decide +kernel
theorem dL_law_1137 : decode cL_law 1137 = .ok (.iadd, 1) := by decide +kernel
theorem dL_law_1138 : decode cL_law 1138 = .ok (.iaload, 1) := by decide +kernel
theorem dL_law_1139 : decode cL_law 1139 = .ok (.aload_n 3, 1) := by decide +kernel
theorem dL_law_1140 : decode cL_law 1140 = .ok (.invokestatic 168, 3) := by decide +kernel
theorem dL_law_1143 : decode cL_law 1143 = .ok (.istore 5, 2) := by decide +kernel
theorem dL_law_1145 : decode cL_law 1145 = .ok (.aload_n 2, 1) := by decide +kernel
theorem dL_law_1146 : decode cL_law 1146 = .ok (.aload_n 0, 1) := by decide +kernel
theorem dL_law_1147 : decode cL_law 1147 = .ok (.iload 4, 2) := by decide +kernel
theorem dL_law_1149 : decode cL_law 1149 = .ok (.iconst 1, 1) := by decide +kernel
theorem dL_law_1150 : decode cL_law 1150 = .ok (.iadd, 1) := by decide +kernel
theorem dL_law_1151 : decode cL_law 1151 = .ok (.iaload, 1) := by decide +kernel
theorem dL_law_1152 : decode cL_law 1152 = .ok (.invokevirtual 170, 3) := by decide +kernel
theorem dL_law_1155 : decode cL_law 1155 = .ok (.istore 6, 2) := by decide +kernel
theorem dL_law_1157 : decode cL_law 1157 = .ok (.aload_n 2, 1) := by decide +kernel
theorem dL_law_1158 : decode cL_law 1158 = .ok (.invokevirtual 113, 3) := by decide +kernel
theorem dL_law_1161 : decode cL_law 1161 = .ok (.iload 5, 2) := by decide +kernel
theorem dL_law_1163 : decode cL_law 1163 = .ok (.if_icmp .eq 5, 3) := by decide +kernel
theorem dL_law_1166 : decode cL_law 1166 = .ok (.iconst 0, 1) := by decide +kernel
theorem dL_law_1167 : decode cL_law 1167 = .ok (.ireturn, 1) := by decide +kernel
theorem dL_law_1168 : decode cL_law 1168 = .ok (.iload 5, 2) := by decide +kernel
theorem dL_law_1170 : decode cL_law 1170 = .ok (.ifCond .ne 15, 3) := by decide +kernel
theorem dL_law_1173 : decode cL_law 1173 = .ok (.aload_n 3, 1) := by decide +kernel
theorem dL_law_1174 : decode cL_law 1174 = .ok (.iconst 0, 1) := by decide +kernel
theorem dL_law_1175 : decode cL_law 1175 = .ok (.laload, 1) := by decide +kernel
theorem dL_law_1176 : decode cL_law 1176 = .ok (.iload 6, 2) := by decide +kernel
theorem dL_law_1178 : decode cL_law 1178 = .ok (.i2l, 1) := by decide +kernel
theorem dL_law_1179 : decode cL_law 1179 = .ok (.lcmp, 1) := by decide +kernel
theorem dL_law_1180 : decode cL_law 1180 = .ok (.ifCond .eq 5, 3) := by decide +kernel
theorem dL_law_1183 : decode cL_law 1183 = .ok (.iconst 0, 1) := by decide +kernel
theorem dL_law_1184 : decode cL_law 1184 = .ok (.ireturn, 1) := by decide +kernel
theorem dL_law_1185 : decode cL_law 1185 = .ok (.goto 703, 3) := by decide +kernel
theorem dL_law_1188 : decode cL_law 1188 = .ok (.aload_n 1, 1) := by decide +kernel
theorem dL_law_1189 : decode cL_law 1189 = .ok (.aload_n 0, 1) := by decide +kernel
theorem dL_law_1190 : decode cL_law 1190 = .ok (.iload 4, 2) := by decide +kernel
theorem dL_law_1192 : decode cL_law 1192 = .ok (.iconst 1, 1) := by decide +kernel
theorem dL_law_1193 : decode cL_law 1193 = .ok (.iadd, 1) := by decide +kernel
theorem dL_law_1194 : decode cL_law 1194 = .ok (.iaload, 1) := by decide +kernel
theorem dL_law_1195 : decode cL_law 1195 = .ok (.aload_n 3, 1) := by decide +kernel
theorem dL_law_1196 : decode cL_law 1196 = .ok (.invokestatic 171, 3) := by decide +kernel
theorem dL_law_1199 : decode cL_law 1199 = .ok (.istore 5, 2) := by decide +kernel
theorem dL_law_1201 : decode cL_law 1201 = .ok (.aload_n 2, 1) := by decide +kernel
theorem dL_law_1202 : decode cL_law 1202 = .ok (.aload_n 0, 1) := by decide +kernel
theorem dL_law_1203 : decode cL_law 1203 = .ok (.iload 4, 2) := by decide +kernel
theorem dL_law_1205 : decode cL_law 1205 = .ok (.iconst 1, 1) := by decide +kernel
theorem dL_law_1206 : decode cL_law 1206 = .ok (.iadd, 1) := by decide +kernel
theorem dL_law_1207 : decode cL_law 1207 = .ok (.iaload, 1) := by decide +kernel
theorem dL_law_1208 : decode cL_law 1208 = .ok (.invokevirtual 173, 3) := by decide +kernel
theorem dL_law_1211 : decode cL_law 1211 = .ok (.istore 6, 2) := by decide +kernel
theorem dL_law_1213 : decode cL_law 1213 = .ok (.aload_n 2, 1) := by decide +kernel
theorem dL_law_1214 : decode cL_law 1214 = .ok (.invokevirtual 113, 3) := by decide +kernel
theorem dL_law_1217 : decode cL_law 1217 = .ok (.iload 5, 2) := by decide +kernel
theorem dL_law_1219 : decode cL_law 1219 = .ok (.if_icmp .eq 5, 3) := by decide +kernel
theorem dL_law_1222 : decode cL_law 1222 = .ok (.iconst 0, 1) := by decide +kernel
theorem dL_law_1223 : decode cL_law 1223 = .ok (.ireturn, 1) := by decide +kernel
theorem dL_law_1224 : decode cL_law 1224 = .ok (.iload 5, 2) := by decide +kernel
theorem dL_law_1226 : decode cL_law 1226 = .ok (.ifCond .ne 15, 3) := by decide +kernel
theorem dL_law_1229 : decode cL_law 1229 = .ok (.aload_n 3, 1) := by decide +kernel
theorem dL_law_1230 : decode cL_law 1230 = .ok (.iconst 0, 1) := by decide +kernel
theorem dL_law_1231 : decode cL_law 1231 = .ok (.laload, 1) := by decide +kernel
theorem dL_law_1232 : decode cL_law 1232 = .ok (.iload 6, 2) := by decide +kernel
theorem dL_law_1234 : decode cL_law 1234 = .ok (.i2l, 1) := by decide +kernel
theorem dL_law_1235 : decode cL_law 1235 = .ok (.lcmp, 1) := by decide +kernel
theorem dL_law_1236 : decode cL_law 1236 = .ok (.ifCond .eq 5, 3) := by decide +kernel
theorem dL_law_1239 : decode cL_law 1239 = .ok (.iconst 0, 1) := by decide +kernel
theorem dL_law_1240 : decode cL_law 1240 = .ok (.ireturn, 1) := by decide +kernel
theorem dL_law_1241 : decode cL_law 1241 = .ok (.goto 647, 3) := by decide +kernel
theorem dL_law_1244 : decode cL_law 1244 = .ok (.aload_n 1, 1) := by decide +kernel
theorem dL_law_1245 : decode cL_law 1245 = .ok (.aload_n 0, 1) := by decide +kernel
theorem dL_law_1246 : decode cL_law 1246 = .ok (.iload 4, 2) := by decide +kernel
theorem dL_law_1248 : decode cL_law 1248 = .ok (.iconst 1, 1) := by decide +kernel
theorem dL_law_1249 : decode cL_law 1249 = .ok (.iadd, 1) := by decide +kernel
theorem dL_law_1250 : decode cL_law 1250 = .ok (.iaload, 1) := by decide +kernel
theorem dL_law_1251 : decode cL_law 1251 = .ok (.aload_n 0, 1) := by decide +kernel
theorem dL_law_1252 : decode cL_law 1252 = .ok (.iload 4, 2) := by decide +kernel
theorem dL_law_1254 : decode cL_law 1254 = .ok (.iconst 2, 1) := by decide +kernel
theorem dL_law_1255 : decode cL_law 1255 = .ok (.iadd, 1) := by decide +kernel
theorem dL_law_1256 : decode cL_law 1256 = .ok (.iaload, 1) := by decide +kernel
theorem dL_law_1257 : decode cL_law 1257 = .ok (.aload_n 3, 1) := by decide +kernel
theorem dL_law_1258 : decode cL_law 1258 = .ok (.invokestatic 174, 3) := by decide +kernel
theorem dL_law_1261 : decode cL_law 1261 = .ok (.istore 5, 2) := by decide +kernel
theorem dL_law_1263 : decode cL_law 1263 = .ok (.aload_n 2, 1) := by decide +kernel
theorem dL_law_1264 : decode cL_law 1264 = .ok (.aload_n 0, 1) := by decide +kernel
theorem dL_law_1265 : decode cL_law 1265 = .ok (.iload 4, 2) := by decide +kernel
theorem dL_law_1267 : decode cL_law 1267 = .ok (.iconst 1, 1) := by decide +kernel
theorem dL_law_1268 : decode cL_law 1268 = .ok (.iadd, 1) := by decide +kernel
theorem dL_law_1269 : decode cL_law 1269 = .ok (.iaload, 1) := by decide +kernel
theorem dL_law_1270 : decode cL_law 1270 = .ok (.aload_n 0, 1) := by decide +kernel
theorem dL_law_1271 : decode cL_law 1271 = .ok (.iload 4, 2) := by decide +kernel
theorem dL_law_1273 : decode cL_law 1273 = .ok (.iconst 2, 1) := by decide +kernel
theorem dL_law_1274 : decode cL_law 1274 = .ok (.iadd, 1) := by decide +kernel
theorem dL_law_1275 : decode cL_law 1275 = .ok (.iaload, 1) := by decide +kernel
theorem dL_law_1276 : decode cL_law 1276 = .ok (.invokevirtual 176, 3) := by decide +kernel
theorem dL_law_1279 : decode cL_law 1279 = .ok (.istore 6, 2) := by decide +kernel
theorem dL_law_1281 : decode cL_law 1281 = .ok (.aload_n 2, 1) := by decide +kernel
theorem dL_law_1282 : decode cL_law 1282 = .ok (.invokevirtual 113, 3) := by decide +kernel
theorem dL_law_1285 : decode cL_law 1285 = .ok (.iload 5, 2) := by decide +kernel
theorem dL_law_1287 : decode cL_law 1287 = .ok (.if_icmp .eq 5, 3) := by decide +kernel
theorem dL_law_1290 : decode cL_law 1290 = .ok (.iconst 0, 1) := by decide +kernel
theorem dL_law_1291 : decode cL_law 1291 = .ok (.ireturn, 1) := by decide +kernel
theorem dL_law_1292 : decode cL_law 1292 = .ok (.iload 5, 2) := by decide +kernel
theorem dL_law_1294 : decode cL_law 1294 = .ok (.ifCond .ne 15, 3) := by decide +kernel
theorem dL_law_1297 : decode cL_law 1297 = .ok (.aload_n 3, 1) := by decide +kernel
theorem dL_law_1298 : decode cL_law 1298 = .ok (.iconst 0, 1) := by decide +kernel
theorem dL_law_1299 : decode cL_law 1299 = .ok (.laload, 1) := by decide +kernel
theorem dL_law_1300 : decode cL_law 1300 = .ok (.iload 6, 2) := by decide +kernel
theorem dL_law_1302 : decode cL_law 1302 = .ok (.i2l, 1) := by decide +kernel
theorem dL_law_1303 : decode cL_law 1303 = .ok (.lcmp, 1) := by decide +kernel
theorem dL_law_1304 : decode cL_law 1304 = .ok (.ifCond .eq 5, 3) := by decide +kernel
theorem dL_law_1307 : decode cL_law 1307 = .ok (.iconst 0, 1) := by decide +kernel
theorem dL_law_1308 : decode cL_law 1308 = .ok (.ireturn, 1) := by decide +kernel
theorem dL_law_1309 : decode cL_law 1309 = .ok (.goto 579, 3) := by decide +kernel
theorem dL_law_1312 : decode cL_law 1312 = .ok (.aload_n 1, 1) := by decide +kernel
theorem dL_law_1313 : decode cL_law 1313 = .ok (.aload_n 0, 1) := by decide +kernel
theorem dL_law_1314 : decode cL_law 1314 = .ok (.iload 4, 2) := by decide +kernel
theorem dL_law_1316 : decode cL_law 1316 = .ok (.iconst 1, 1) := by decide +kernel
theorem dL_law_1317 : decode cL_law 1317 = .ok (.iadd, 1) := by decide +kernel
theorem dL_law_1318 : decode cL_law 1318 = .ok (.iaload, 1) := by decide +kernel
theorem dL_law_1319 : decode cL_law 1319 = .ok (.invokevirtual 177, 3) := by decide +kernel
theorem dL_law_1322 : decode cL_law 1322 = .ok (.aload_n 2, 1) := by decide +kernel
theorem dL_law_1323 : decode cL_law 1323 = .ok (.aload_n 0, 1) := by decide +kernel
theorem dL_law_1324 : decode cL_law 1324 = .ok (.iload 4, 2) := by decide +kernel
theorem dL_law_1326 : decode cL_law 1326 = .ok (.iconst 1, 1) := by decide +kernel
theorem dL_law_1327 : decode cL_law 1327 = .ok (.iadd, 1) := by decide +kernel
theorem dL_law_1328 : decode cL_law 1328 = .ok (.iaload, 1) := by decide +kernel
theorem dL_law_1329 : decode cL_law 1329 = .ok (.invokevirtual 180, 3) := by decide +kernel
theorem dL_law_1332 : decode cL_law 1332 = .ok (.if_icmp .eq 556, 3) := by decide +kernel
theorem dL_law_1335 : decode cL_law 1335 = .ok (.iconst 0, 1) := by decide +kernel
theorem dL_law_1336 : decode cL_law 1336 = .ok (.ireturn, 1) := by decide +kernel
theorem dL_law_1337 : decode cL_law 1337 = .ok (.aload_n 1, 1) := by decide +kernel
theorem dL_law_1338 : decode cL_law 1338 = .ok (.aload_n 0, 1) := by decide +kernel
theorem dL_law_1339 : decode cL_law 1339 = .ok (.iload 4, 2) := by decide +kernel
theorem dL_law_1341 : decode cL_law 1341 = .ok (.iconst 1, 1) := by decide +kernel
theorem dL_law_1342 : decode cL_law 1342 = .ok (.iadd, 1) := by decide +kernel
theorem dL_law_1343 : decode cL_law 1343 = .ok (.iaload, 1) := by decide +kernel
theorem dL_law_1344 : decode cL_law 1344 = .ok (.aload_n 0, 1) := by decide +kernel
theorem dL_law_1345 : decode cL_law 1345 = .ok (.iload 4, 2) := by decide +kernel
theorem dL_law_1347 : decode cL_law 1347 = .ok (.iconst 2, 1) := by decide +kernel
theorem dL_law_1348 : decode cL_law 1348 = .ok (.iadd, 1) := by decide +kernel
theorem dL_law_1349 : decode cL_law 1349 = .ok (.iaload, 1) := by decide +kernel
theorem dL_law_1350 : decode cL_law 1350 = .ok (.aload_n 3, 1) := by decide +kernel
theorem dL_law_1351 : decode cL_law 1351 = .ok (.invokestatic 181, 3) := by decide +kernel
theorem dL_law_1354 : decode cL_law 1354 = .ok (.istore 5, 2) := by decide +kernel
theorem dL_law_1356 : decode cL_law 1356 = .ok (.aload_n 2, 1) := by decide +kernel
theorem dL_law_1357 : decode cL_law 1357 = .ok (.aload_n 0, 1) := by decide +kernel
theorem dL_law_1358 : decode cL_law 1358 = .ok (.iload 4, 2) := by decide +kernel
theorem dL_law_1360 : decode cL_law 1360 = .ok (.iconst 1, 1) := by decide +kernel
theorem dL_law_1361 : decode cL_law 1361 = .ok (.iadd, 1) := by decide +kernel
theorem dL_law_1362 : decode cL_law 1362 = .ok (.iaload, 1) := by decide +kernel
theorem dL_law_1363 : decode cL_law 1363 = .ok (.aload_n 0, 1) := by decide +kernel
theorem dL_law_1364 : decode cL_law 1364 = .ok (.iload 4, 2) := by decide +kernel
theorem dL_law_1366 : decode cL_law 1366 = .ok (.iconst 2, 1) := by decide +kernel
theorem dL_law_1367 : decode cL_law 1367 = .ok (.iadd, 1) := by decide +kernel
theorem dL_law_1368 : decode cL_law 1368 = .ok (.iaload, 1) := by decide +kernel
theorem dL_law_1369 : decode cL_law 1369 = .ok (.invokevirtual 183, 3) := by decide +kernel
theorem dL_law_1372 : decode cL_law 1372 = .ok (.istore 6, 2) := by decide +kernel
theorem dL_law_1374 : decode cL_law 1374 = .ok (.aload_n 2, 1) := by decide +kernel
theorem dL_law_1375 : decode cL_law 1375 = .ok (.invokevirtual 113, 3) := by decide +kernel
theorem dL_law_1378 : decode cL_law 1378 = .ok (.iload 5, 2) := by decide +kernel
theorem dL_law_1380 : decode cL_law 1380 = .ok (.if_icmp .eq 5, 3) := by decide +kernel
theorem dL_law_1383 : decode cL_law 1383 = .ok (.iconst 0, 1) := by decide +kernel
theorem dL_law_1384 : decode cL_law 1384 = .ok (.ireturn, 1) := by decide +kernel
theorem dL_law_1385 : decode cL_law 1385 = .ok (.iload 5, 2) := by decide +kernel
theorem dL_law_1387 : decode cL_law 1387 = .ok (.ifCond .ne 15, 3) := by decide +kernel
theorem dL_law_1390 : decode cL_law 1390 = .ok (.aload_n 3, 1) := by decide +kernel
theorem dL_law_1391 : decode cL_law 1391 = .ok (.iconst 0, 1) := by decide +kernel
theorem dL_law_1392 : decode cL_law 1392 = .ok (.laload, 1) := by decide +kernel
theorem dL_law_1393 : decode cL_law 1393 = .ok (.iload 6, 2) := by decide +kernel
theorem dL_law_1395 : decode cL_law 1395 = .ok (.i2l, 1) := by decide +kernel
theorem dL_law_1396 : decode cL_law 1396 = .ok (.lcmp, 1) := by decide +kernel
theorem dL_law_1397 : decode cL_law 1397 = .ok (.ifCond .eq 5, 3) := by decide +kernel
theorem dL_law_1400 : decode cL_law 1400 = .ok (.iconst 0, 1) := by decide +kernel
theorem dL_law_1401 : decode cL_law 1401 = .ok (.ireturn, 1) := by decide +kernel
theorem dL_law_1402 : decode cL_law 1402 = .ok (.goto 486, 3) := by decide +kernel
theorem dL_law_1405 : decode cL_law 1405 = .ok (.aload_n 1, 1) := by decide +kernel
theorem dL_law_1406 : decode cL_law 1406 = .ok (.aload_n 0, 1) := by decide +kernel
theorem dL_law_1407 : decode cL_law 1407 = .ok (.iload 4, 2) := by decide +kernel
theorem dL_law_1409 : decode cL_law 1409 = .ok (.iconst 1, 1) := by decide +kernel
theorem dL_law_1410 : decode cL_law 1410 = .ok (.iadd, 1) := by decide +kernel
theorem dL_law_1411 : decode cL_law 1411 = .ok (.iaload, 1) := by decide +kernel
theorem dL_law_1412 : decode cL_law 1412 = .ok (.aload_n 0, 1) := by decide +kernel
theorem dL_law_1413 : decode cL_law 1413 = .ok (.iload 4, 2) := by decide +kernel
theorem dL_law_1415 : decode cL_law 1415 = .ok (.iconst 2, 1) := by decide +kernel
theorem dL_law_1416 : decode cL_law 1416 = .ok (.iadd, 1) := by decide +kernel
theorem dL_law_1417 : decode cL_law 1417 = .ok (.iaload, 1) := by decide +kernel
theorem dL_law_1418 : decode cL_law 1418 = .ok (.aload_n 3, 1) := by decide +kernel
theorem dL_law_1419 : decode cL_law 1419 = .ok (.invokestatic 184, 3) := by decide +kernel
theorem dL_law_1422 : decode cL_law 1422 = .ok (.istore 5, 2) := by decide +kernel
theorem dL_law_1424 : decode cL_law 1424 = .ok (.aload_n 2, 1) := by decide +kernel
theorem dL_law_1425 : decode cL_law 1425 = .ok (.aload_n 0, 1) := by decide +kernel
theorem dL_law_1426 : decode cL_law 1426 = .ok (.iload 4, 2) := by decide +kernel
theorem dL_law_1428 : decode cL_law 1428 = .ok (.iconst 1, 1) := by decide +kernel
theorem dL_law_1429 : decode cL_law 1429 = .ok (.iadd, 1) := by decide +kernel
theorem dL_law_1430 : decode cL_law 1430 = .ok (.iaload, 1) := by decide +kernel
theorem dL_law_1431 : decode cL_law 1431 = .ok (.aload_n 0, 1) := by decide +kernel
theorem dL_law_1432 : decode cL_law 1432 = .ok (.iload 4, 2) := by decide +kernel
theorem dL_law_1434 : decode cL_law 1434 = .ok (.iconst 2, 1) := by decide +kernel
theorem dL_law_1435 : decode cL_law 1435 = .ok (.iadd, 1) := by decide +kernel
theorem dL_law_1436 : decode cL_law 1436 = .ok (.iaload, 1) := by decide +kernel
theorem dL_law_1437 : decode cL_law 1437 = .ok (.invokevirtual 186, 3) := by decide +kernel
theorem dL_law_1440 : decode cL_law 1440 = .ok (.istore 6, 2) := by decide +kernel
theorem dL_law_1442 : decode cL_law 1442 = .ok (.aload_n 2, 1) := by decide +kernel
theorem dL_law_1443 : decode cL_law 1443 = .ok (.invokevirtual 113, 3) := by decide +kernel
theorem dL_law_1446 : decode cL_law 1446 = .ok (.iload 5, 2) := by decide +kernel
theorem dL_law_1448 : decode cL_law 1448 = .ok (.if_icmp .eq 5, 3) := by decide +kernel
theorem dL_law_1451 : decode cL_law 1451 = .ok (.iconst 0, 1) := by decide +kernel
theorem dL_law_1452 : decode cL_law 1452 = .ok (.ireturn, 1) := by decide +kernel
theorem dL_law_1453 : decode cL_law 1453 = .ok (.iload 5, 2) := by decide +kernel
theorem dL_law_1455 : decode cL_law 1455 = .ok (.ifCond .ne 15, 3) := by decide +kernel
theorem dL_law_1458 : decode cL_law 1458 = .ok (.aload_n 3, 1) := by decide +kernel
theorem dL_law_1459 : decode cL_law 1459 = .ok (.iconst 0, 1) := by decide +kernel
theorem dL_law_1460 : decode cL_law 1460 = .ok (.laload, 1) := by decide +kernel
theorem dL_law_1461 : decode cL_law 1461 = .ok (.iload 6, 2) := by decide +kernel
theorem dL_law_1463 : decode cL_law 1463 = .ok (.i2l, 1) := by decide +kernel
theorem dL_law_1464 : decode cL_law 1464 = .ok (.lcmp, 1) := by decide +kernel
theorem dL_law_1465 : decode cL_law 1465 = .ok (.ifCond .eq 5, 3) := by decide +kernel
theorem dL_law_1468 : decode cL_law 1468 = .ok (.iconst 0, 1) := by decide +kernel
theorem dL_law_1469 : decode cL_law 1469 = .ok (.ireturn, 1) := by decide +kernel
theorem dL_law_1470 : decode cL_law 1470 = .ok (.goto 418, 3) := by decide +kernel
theorem dL_law_1473 : decode cL_law 1473 = .ok (.aload_n 1, 1) := by decide +kernel
theorem dL_law_1474 : decode cL_law 1474 = .ok (.aload_n 0, 1) := by decide +kernel
theorem dL_law_1475 : decode cL_law 1475 = .ok (.iload 4, 2) := by decide +kernel
theorem dL_law_1477 : decode cL_law 1477 = .ok (.iconst 1, 1) := by decide +kernel
theorem dL_law_1478 : decode cL_law 1478 = .ok (.iadd, 1) := by decide +kernel
theorem dL_law_1479 : decode cL_law 1479 = .ok (.iaload, 1) := by decide +kernel
theorem dL_law_1480 : decode cL_law 1480 = .ok (.aload_n 0, 1) := by decide +kernel
theorem dL_law_1481 : decode cL_law 1481 = .ok (.iload 4, 2) := by decide +kernel
theorem dL_law_1483 : decode cL_law 1483 = .ok (.iconst 2, 1) := by decide +kernel
theorem dL_law_1484 : decode cL_law 1484 = .ok (.iadd, 1) := by decide +kernel
theorem dL_law_1485 : decode cL_law 1485 = .ok (.iaload, 1) := by decide +kernel
theorem dL_law_1486 : decode cL_law 1486 = .ok (.aload_n 3, 1) := by decide +kernel
theorem dL_law_1487 : decode cL_law 1487 = .ok (.invokestatic 187, 3) := by decide +kernel
theorem dL_law_1490 : decode cL_law 1490 = .ok (.istore 5, 2) := by decide +kernel
theorem dL_law_1492 : decode cL_law 1492 = .ok (.aload_n 2, 1) := by decide +kernel
theorem dL_law_1493 : decode cL_law 1493 = .ok (.aload_n 0, 1) := by decide +kernel
theorem dL_law_1494 : decode cL_law 1494 = .ok (.iload 4, 2) := by decide +kernel
theorem dL_law_1496 : decode cL_law 1496 = .ok (.iconst 1, 1) := by decide +kernel
theorem dL_law_1497 : decode cL_law 1497 = .ok (.iadd, 1) := by decide +kernel
theorem dL_law_1498 : decode cL_law 1498 = .ok (.iaload, 1) := by decide +kernel
theorem dL_law_1499 : decode cL_law 1499 = .ok (.aload_n 0, 1) := by decide +kernel
theorem dL_law_1500 : decode cL_law 1500 = .ok (.iload 4, 2) := by decide +kernel
theorem dL_law_1502 : decode cL_law 1502 = .ok (.iconst 2, 1) := by decide +kernel
theorem dL_law_1503 : decode cL_law 1503 = .ok (.iadd, 1) := by decide +kernel
theorem dL_law_1504 : decode cL_law 1504 = .ok (.iaload, 1) := by decide +kernel
theorem dL_law_1505 : decode cL_law 1505 = .ok (.invokevirtual 189, 3) := by decide +kernel
theorem dL_law_1508 : decode cL_law 1508 = .ok (.istore 6, 2) := by decide +kernel
theorem dL_law_1510 : decode cL_law 1510 = .ok (.aload_n 2, 1) := by decide +kernel
theorem dL_law_1511 : decode cL_law 1511 = .ok (.invokevirtual 113, 3) := by decide +kernel
theorem dL_law_1514 : decode cL_law 1514 = .ok (.iload 5, 2) := by decide +kernel
theorem dL_law_1516 : decode cL_law 1516 = .ok (.if_icmp .eq 5, 3) := by decide +kernel
theorem dL_law_1519 : decode cL_law 1519 = .ok (.iconst 0, 1) := by decide +kernel
theorem dL_law_1520 : decode cL_law 1520 = .ok (.ireturn, 1) := by decide +kernel
theorem dL_law_1521 : decode cL_law 1521 = .ok (.iload 5, 2) := by decide +kernel
theorem dL_law_1523 : decode cL_law 1523 = .ok (.ifCond .ne 15, 3) := by decide +kernel
theorem dL_law_1526 : decode cL_law 1526 = .ok (.aload_n 3, 1) := by decide +kernel
theorem dL_law_1527 : decode cL_law 1527 = .ok (.iconst 0, 1) := by decide +kernel
theorem dL_law_1528 : decode cL_law 1528 = .ok (.laload, 1) := by decide +kernel
theorem dL_law_1529 : decode cL_law 1529 = .ok (.iload 6, 2) := by decide +kernel
theorem dL_law_1531 : decode cL_law 1531 = .ok (.i2l, 1) := by decide +kernel
theorem dL_law_1532 : decode cL_law 1532 = .ok (.lcmp, 1) := by decide +kernel
theorem dL_law_1533 : decode cL_law 1533 = .ok (.ifCond .eq 5, 3) := by decide +kernel
theorem dL_law_1536 : decode cL_law 1536 = .ok (.iconst 0, 1) := by decide +kernel
theorem dL_law_1537 : decode cL_law 1537 = .ok (.ireturn, 1) := by decide +kernel
theorem dL_law_1538 : decode cL_law 1538 = .ok (.goto 350, 3) := by decide +kernel
theorem dL_law_1541 : decode cL_law 1541 = .ok (.aload_n 1, 1) := by decide +kernel
theorem dL_law_1542 : decode cL_law 1542 = .ok (.aload_n 0, 1) := by decide +kernel
theorem dL_law_1543 : decode cL_law 1543 = .ok (.iload 4, 2) := by decide +kernel
theorem dL_law_1545 : decode cL_law 1545 = .ok (.iconst 1, 1) := by decide +kernel
theorem dL_law_1546 : decode cL_law 1546 = .ok (.iadd, 1) := by decide +kernel
theorem dL_law_1547 : decode cL_law 1547 = .ok (.iaload, 1) := by decide +kernel
theorem dL_law_1548 : decode cL_law 1548 = .ok (.invokevirtual 190, 3) := by decide +kernel
theorem dL_law_1551 : decode cL_law 1551 = .ok (.aload_n 2, 1) := by decide +kernel
theorem dL_law_1552 : decode cL_law 1552 = .ok (.aload_n 0, 1) := by decide +kernel
theorem dL_law_1553 : decode cL_law 1553 = .ok (.iload 4, 2) := by decide +kernel
theorem dL_law_1555 : decode cL_law 1555 = .ok (.iconst 1, 1) := by decide +kernel
theorem dL_law_1556 : decode cL_law 1556 = .ok (.iadd, 1) := by decide +kernel
theorem dL_law_1557 : decode cL_law 1557 = .ok (.iaload, 1) := by decide +kernel
theorem dL_law_1558 : decode cL_law 1558 = .ok (.invokevirtual 193, 3) := by decide +kernel
theorem dL_law_1561 : decode cL_law 1561 = .ok (.if_icmp .eq 327, 3) := by decide +kernel
theorem dL_law_1564 : decode cL_law 1564 = .ok (.iconst 0, 1) := by decide +kernel
theorem dL_law_1565 : decode cL_law 1565 = .ok (.ireturn, 1) := by decide +kernel
theorem dL_law_1566 : decode cL_law 1566 = .ok (.aload_n 1, 1) := by decide +kernel
theorem dL_law_1567 : decode cL_law 1567 = .ok (.aload_n 0, 1) := by decide +kernel
theorem dL_law_1568 : decode cL_law 1568 = .ok (.iload 4, 2) := by decide +kernel
theorem dL_law_1570 : decode cL_law 1570 = .ok (.iconst 1, 1) := by decide +kernel
theorem dL_law_1571 : decode cL_law 1571 = .ok (.iadd, 1) := by decide +kernel
theorem dL_law_1572 : decode cL_law 1572 = .ok (.iaload, 1) := by decide +kernel
theorem dL_law_1573 : decode cL_law 1573 = .ok (.aload_n 3, 1) := by decide +kernel
theorem dL_law_1574 : decode cL_law 1574 = .ok (.invokestatic 194, 3) := by decide +kernel
theorem dL_law_1577 : decode cL_law 1577 = .ok (.istore 5, 2) := by decide +kernel
theorem dL_law_1579 : decode cL_law 1579 = .ok (.aload_n 2, 1) := by decide +kernel
theorem dL_law_1580 : decode cL_law 1580 = .ok (.aload_n 0, 1) := by decide +kernel
theorem dL_law_1581 : decode cL_law 1581 = .ok (.iload 4, 2) := by decide +kernel
theorem dL_law_1583 : decode cL_law 1583 = .ok (.iconst 1, 1) := by decide +kernel
theorem dL_law_1584 : decode cL_law 1584 = .ok (.iadd, 1) := by decide +kernel
theorem dL_law_1585 : decode cL_law 1585 = .ok (.iaload, 1) := by decide +kernel
theorem dL_law_1586 : decode cL_law 1586 = .ok (.invokevirtual 196, 3) := by decide +kernel
theorem dL_law_1589 : decode cL_law 1589 = .ok (.istore 6, 2) := by decide +kernel
theorem dL_law_1591 : decode cL_law 1591 = .ok (.aload_n 2, 1) := by decide +kernel
theorem dL_law_1592 : decode cL_law 1592 = .ok (.invokevirtual 113, 3) := by decide +kernel
theorem dL_law_1595 : decode cL_law 1595 = .ok (.iload 5, 2) := by decide +kernel
theorem dL_law_1597 : decode cL_law 1597 = .ok (.if_icmp .eq 5, 3) := by decide +kernel
theorem dL_law_1600 : decode cL_law 1600 = .ok (.iconst 0, 1) := by decide +kernel
theorem dL_law_1601 : decode cL_law 1601 = .ok (.ireturn, 1) := by decide +kernel
theorem dL_law_1602 : decode cL_law 1602 = .ok (.iload 5, 2) := by decide +kernel
theorem dL_law_1604 : decode cL_law 1604 = .ok (.ifCond .ne 15, 3) := by decide +kernel
theorem dL_law_1607 : decode cL_law 1607 = .ok (.aload_n 3, 1) := by decide +kernel
theorem dL_law_1608 : decode cL_law 1608 = .ok (.iconst 0, 1) := by decide +kernel
theorem dL_law_1609 : decode cL_law 1609 = .ok (.laload, 1) := by decide +kernel
theorem dL_law_1610 : decode cL_law 1610 = .ok (.iload 6, 2) := by decide +kernel
theorem dL_law_1612 : decode cL_law 1612 = .ok (.i2l, 1) := by decide +kernel
theorem dL_law_1613 : decode cL_law 1613 = .ok (.lcmp, 1) := by decide +kernel
theorem dL_law_1614 : decode cL_law 1614 = .ok (.ifCond .eq 5, 3) := by decide +kernel
theorem dL_law_1617 : decode cL_law 1617 = .ok (.iconst 0, 1) := by decide +kernel
theorem dL_law_1618 : decode cL_law 1618 = .ok (.ireturn, 1) := by decide +kernel
theorem dL_law_1619 : decode cL_law 1619 = .ok (.goto 269, 3) := by decide +kernel
theorem dL_law_1622 : decode cL_law 1622 = .ok (.aload_n 1, 1) := by decide +kernel
theorem dL_law_1623 : decode cL_law 1623 = .ok (.aload_n 0, 1) := by decide +kernel
theorem dL_law_1624 : decode cL_law 1624 = .ok (.iload 4, 2) := by decide +kernel
theorem dL_law_1626 : decode cL_law 1626 = .ok (.iconst 1, 1) := by decide +kernel
theorem dL_law_1627 : decode cL_law 1627 = .ok (.iadd, 1) := by decide +kernel
theorem dL_law_1628 : decode cL_law 1628 = .ok (.iaload, 1) := by decide +kernel
theorem dL_law_1629 : decode cL_law 1629 = .ok (.aload_n 0, 1) := by decide +kernel
theorem dL_law_1630 : decode cL_law 1630 = .ok (.iload 4, 2) := by decide +kernel
theorem dL_law_1632 : decode cL_law 1632 = .ok (.iconst 2, 1) := by decide +kernel
theorem dL_law_1633 : decode cL_law 1633 = .ok (.iadd, 1) := by decide +kernel
theorem dL_law_1634 : decode cL_law 1634 = .ok (.iaload, 1) := by decide +kernel
theorem dL_law_1635 : decode cL_law 1635 = .ok (.aload_n 0, 1) := by decide +kernel
theorem dL_law_1636 : decode cL_law 1636 = .ok (.iload 4, 2) := by decide +kernel
theorem dL_law_1638 : decode cL_law 1638 = .ok (.iconst 3, 1) := by decide +kernel
theorem dL_law_1639 : decode cL_law 1639 = .ok (.iadd, 1) := by decide +kernel
theorem dL_law_1640 : decode cL_law 1640 = .ok (.iaload, 1) := by decide +kernel
theorem dL_law_1641 : decode cL_law 1641 = .ok (.aload_n 3, 1) := by decide +kernel
theorem dL_law_1642 : decode cL_law 1642 = .ok (.invokestatic 197, 3) := by decide +kernel
theorem dL_law_1645 : decode cL_law 1645 = .ok (.istore 5, 2) := by decide +kernel
theorem dL_law_1647 : decode cL_law 1647 = .ok (.aload_n 2, 1) := by decide +kernel
theorem dL_law_1648 : decode cL_law 1648 = .ok (.aload_n 0, 1) := by decide +kernel
theorem dL_law_1649 : decode cL_law 1649 = .ok (.iload 4, 2) := by decide +kernel
theorem dL_law_1651 : decode cL_law 1651 = .ok (.iconst 1, 1) := by decide +kernel
theorem dL_law_1652 : decode cL_law 1652 = .ok (.iadd, 1) := by decide +kernel
theorem dL_law_1653 : decode cL_law 1653 = .ok (.iaload, 1) := by decide +kernel
theorem dL_law_1654 : decode cL_law 1654 = .ok (.aload_n 0, 1) := by decide +kernel
theorem dL_law_1655 : decode cL_law 1655 = .ok (.iload 4, 2) := by decide +kernel
theorem dL_law_1657 : decode cL_law 1657 = .ok (.iconst 2, 1) := by decide +kernel
theorem dL_law_1658 : decode cL_law 1658 = .ok (.iadd, 1) := by decide +kernel
theorem dL_law_1659 : decode cL_law 1659 = .ok (.iaload, 1) := by decide +kernel
theorem dL_law_1660 : decode cL_law 1660 = .ok (.aload_n 0, 1) := by decide +kernel
theorem dL_law_1661 : decode cL_law 1661 = .ok (.iload 4, 2) := by decide +kernel
theorem dL_law_1663 : decode cL_law 1663 = .ok (.iconst 3, 1) := by decide +kernel
theorem dL_law_1664 : decode cL_law 1664 = .ok (.iadd, 1) := by decide +kernel
theorem dL_law_1665 : decode cL_law 1665 = .ok (.iaload, 1) := by decide +kernel
theorem dL_law_1666 : decode cL_law 1666 = .ok (.invokevirtual 200, 3) := by decide +kernel
theorem dL_law_1669 : decode cL_law 1669 = .ok (.istore 6, 2) := by decide +kernel
theorem dL_law_1671 : decode cL_law 1671 = .ok (.aload_n 2, 1) := by decide +kernel
theorem dL_law_1672 : decode cL_law 1672 = .ok (.invokevirtual 113, 3) := by decide +kernel
theorem dL_law_1675 : decode cL_law 1675 = .ok (.iload 5, 2) := by decide +kernel
theorem dL_law_1677 : decode cL_law 1677 = .ok (.if_icmp .eq 5, 3) := by decide +kernel
theorem dL_law_1680 : decode cL_law 1680 = .ok (.iconst 0, 1) := by decide +kernel
theorem dL_law_1681 : decode cL_law 1681 = .ok (.ireturn, 1) := by decide +kernel
theorem dL_law_1682 : decode cL_law 1682 = .ok (.iload 5, 2) := by decide +kernel
theorem dL_law_1684 : decode cL_law 1684 = .ok (.ifCond .ne 15, 3) := by decide +kernel
theorem dL_law_1687 : decode cL_law 1687 = .ok (.aload_n 3, 1) := by decide +kernel
theorem dL_law_1688 : decode cL_law 1688 = .ok (.iconst 0, 1) := by decide +kernel
theorem dL_law_1689 : decode cL_law 1689 = .ok (.laload, 1) := by decide +kernel
theorem dL_law_1690 : decode cL_law 1690 = .ok (.iload 6, 2) := by decide +kernel
theorem dL_law_1692 : decode cL_law 1692 = .ok (.i2l, 1) := by decide +kernel
theorem dL_law_1693 : decode cL_law 1693 = .ok (.lcmp, 1) := by decide +kernel
theorem dL_law_1694 : decode cL_law 1694 = .ok (.ifCond .eq 5, 3) := by decide +kernel
theorem dL_law_1697 : decode cL_law 1697 = .ok (.iconst 0, 1) := by decide +kernel
theorem dL_law_1698 : decode cL_law 1698 = .ok (.ireturn, 1) := by decide +kernel
theorem dL_law_1699 : decode cL_law 1699 = .ok (.goto 189, 3) := by decide +kernel
theorem dL_law_1702 : decode cL_law 1702 = .ok (.aload_n 1, 1) := by decide +kernel
theorem dL_law_1703 : decode cL_law 1703 = .ok (.aload_n 0, 1) := by decide +kernel
theorem dL_law_1704 : decode cL_law 1704 = .ok (.iload 4, 2) := by decide +kernel
theorem dL_law_1706 : decode cL_law 1706 = .ok (.iconst 1, 1) := by decide +kernel
theorem dL_law_1707 : decode cL_law 1707 = .ok (.iadd, 1) := by decide +kernel
theorem dL_law_1708 : decode cL_law 1708 = .ok (.iaload, 1) := by decide +kernel
theorem dL_law_1709 : decode cL_law 1709 = .ok (.aload_n 3, 1) := by decide +kernel
theorem dL_law_1710 : decode cL_law 1710 = .ok (.invokestatic 201, 3) := by decide +kernel
theorem dL_law_1713 : decode cL_law 1713 = .ok (.istore 5, 2) := by decide +kernel
theorem dL_law_1715 : decode cL_law 1715 = .ok (.aload_n 2, 1) := by decide +kernel
theorem dL_law_1716 : decode cL_law 1716 = .ok (.aload_n 0, 1) := by decide +kernel
theorem dL_law_1717 : decode cL_law 1717 = .ok (.iload 4, 2) := by decide +kernel
theorem dL_law_1719 : decode cL_law 1719 = .ok (.iconst 1, 1) := by decide +kernel
theorem dL_law_1720 : decode cL_law 1720 = .ok (.iadd, 1) := by decide +kernel
theorem dL_law_1721 : decode cL_law 1721 = .ok (.iaload, 1) := by decide +kernel
theorem dL_law_1722 : decode cL_law 1722 = .ok (.invokevirtual 203, 3) := by decide +kernel
theorem dL_law_1725 : decode cL_law 1725 = .ok (.istore 6, 2) := by decide +kernel
theorem dL_law_1727 : decode cL_law 1727 = .ok (.aload_n 2, 1) := by decide +kernel
theorem dL_law_1728 : decode cL_law 1728 = .ok (.invokevirtual 113, 3) := by decide +kernel
theorem dL_law_1731 : decode cL_law 1731 = .ok (.iload 5, 2) := by decide +kernel
theorem dL_law_1733 : decode cL_law 1733 = .ok (.if_icmp .eq 5, 3) := by decide +kernel
theorem dL_law_1736 : decode cL_law 1736 = .ok (.iconst 0, 1) := by decide +kernel
theorem dL_law_1737 : decode cL_law 1737 = .ok (.ireturn, 1) := by decide +kernel
theorem dL_law_1738 : decode cL_law 1738 = .ok (.iload 5, 2) := by decide +kernel
theorem dL_law_1740 : decode cL_law 1740 = .ok (.ifCond .ne 15, 3) := by decide +kernel
theorem dL_law_1743 : decode cL_law 1743 = .ok (.aload_n 3, 1) := by decide +kernel
theorem dL_law_1744 : decode cL_law 1744 = .ok (.iconst 0, 1) := by decide +kernel
theorem dL_law_1745 : decode cL_law 1745 = .ok (.laload, 1) := by decide +kernel
theorem dL_law_1746 : decode cL_law 1746 = .ok (.iload 6, 2) := by decide +kernel
theorem dL_law_1748 : decode cL_law 1748 = .ok (.i2l, 1) := by decide +kernel
theorem dL_law_1749 : decode cL_law 1749 = .ok (.lcmp, 1) := by decide +kernel
theorem dL_law_1750 : decode cL_law 1750 = .ok (.ifCond .eq 5, 3) := by decide +kernel
theorem dL_law_1753 : decode cL_law 1753 = .ok (.iconst 0, 1) := by decide +kernel
theorem dL_law_1754 : decode cL_law 1754 = .ok (.ireturn, 1) := by decide +kernel
theorem dL_law_1755 : decode cL_law 1755 = .ok (.goto 133, 3) := by decide +kernel
theorem dL_law_1758 : decode cL_law 1758 = .ok (.aload_n 1, 1) := by decide +kernel
theorem dL_law_1759 : decode cL_law 1759 = .ok (.aload_n 0, 1) := by decide +kernel
theorem dL_law_1760 : decode cL_law 1760 = .ok (.iload 4, 2) := by decide +kernel
theorem dL_law_1762 : decode cL_law 1762 = .ok (.iconst 1, 1) := by decide +kernel
theorem dL_law_1763 : decode cL_law 1763 = .ok (.iadd, 1) := by decide +kernel
theorem dL_law_1764 : decode cL_law 1764 = .ok (.iaload, 1) := by decide +kernel
theorem dL_law_1765 : decode cL_law 1765 = .ok (.aload_n 3, 1) := by decide +kernel
theorem dL_law_1766 : decode cL_law 1766 = .ok (.invokestatic 204, 3) := by decide +kernel
theorem dL_law_1769 : decode cL_law 1769 = .ok (.istore 5, 2) := by decide +kernel
theorem dL_law_1771 : decode cL_law 1771 = .ok (.aload_n 2, 1) := by decide +kernel
theorem dL_law_1772 : decode cL_law 1772 = .ok (.aload_n 0, 1) := by decide +kernel
theorem dL_law_1773 : decode cL_law 1773 = .ok (.iload 4, 2) := by decide +kernel
theorem dL_law_1775 : decode cL_law 1775 = .ok (.iconst 1, 1) := by decide +kernel
theorem dL_law_1776 : decode cL_law 1776 = .ok (.iadd, 1) := by decide +kernel
theorem dL_law_1777 : decode cL_law 1777 = .ok (.iaload, 1) := by decide +kernel
theorem dL_law_1778 : decode cL_law 1778 = .ok (.invokevirtual 206, 3) := by decide +kernel
theorem dL_law_1781 : decode cL_law 1781 = .ok (.istore 6, 2) := by decide +kernel
theorem dL_law_1783 : decode cL_law 1783 = .ok (.aload_n 2, 1) := by decide +kernel
theorem dL_law_1784 : decode cL_law 1784 = .ok (.invokevirtual 113, 3) := by decide +kernel
theorem dL_law_1787 : decode cL_law 1787 = .ok (.iload 5, 2) := by decide +kernel
theorem dL_law_1789 : decode cL_law 1789 = .ok (.if_icmp .eq 5, 3) := by decide +kernel
theorem dL_law_1792 : decode cL_law 1792 = .ok (.iconst 0, 1) := by decide +kernel
theorem dL_law_1793 : decode cL_law 1793 = .ok (.ireturn, 1) := by decide +kernel
theorem dL_law_1794 : decode cL_law 1794 = .ok (.iload 5, 2) := by decide +kernel
theorem dL_law_1796 : decode cL_law 1796 = .ok (.ifCond .ne 15, 3) := by decide +kernel
theorem dL_law_1799 : decode cL_law 1799 = .ok (.aload_n 3, 1) := by decide +kernel
theorem dL_law_1800 : decode cL_law 1800 = .ok (.iconst 0, 1) := by decide +kernel
theorem dL_law_1801 : decode cL_law 1801 = .ok (.laload, 1) := by decide +kernel
theorem dL_law_1802 : decode cL_law 1802 = .ok (.iload 6, 2) := by decide +kernel
theorem dL_law_1804 : decode cL_law 1804 = .ok (.i2l, 1) := by decide +kernel
theorem dL_law_1805 : decode cL_law 1805 = .ok (.lcmp, 1) := by decide +kernel
theorem dL_law_1806 : decode cL_law 1806 = .ok (.ifCond .eq 5, 3) := by decide +kernel
theorem dL_law_1809 : decode cL_law 1809 = .ok (.iconst 0, 1) := by decide +kernel
theorem dL_law_1810 : decode cL_law 1810 = .ok (.ireturn, 1) := by decide +kernel
theorem dL_law_1811 : decode cL_law 1811 = .ok (.goto 77, 3) := by decide +kernel
theorem dL_law_1814 : decode cL_law 1814 = .ok (.aload_n 1, 1) := by decide +kernel
theorem dL_law_1815 : decode cL_law 1815 = .ok (.aload_n 0, 1) := by decide +kernel
theorem dL_law_1816 : decode cL_law 1816 = .ok (.iload 4, 2) := by decide +kernel
theorem dL_law_1818 : decode cL_law 1818 = .ok (.iconst 1, 1) := by decide +kernel
theorem dL_law_1819 : decode cL_law 1819 = .ok (.iadd, 1) := by decide +kernel
theorem dL_law_1820 : decode cL_law 1820 = .ok (.iaload, 1) := by decide +kernel
theorem dL_law_1821 : decode cL_law 1821 = .ok (.invokevirtual 207, 3) := by decide +kernel
theorem dL_law_1824 : decode cL_law 1824 = .ok (.aload_n 2, 1) := by decide +kernel
theorem dL_law_1825 : decode cL_law 1825 = .ok (.aload_n 0, 1) := by decide +kernel
theorem dL_law_1826 : decode cL_law 1826 = .ok (.iload 4, 2) := by decide +kernel
theorem dL_law_1828 : decode cL_law 1828 = .ok (.iconst 1, 1) := by decide +kernel
theorem dL_law_1829 : decode cL_law 1829 = .ok (.iadd, 1) := by decide +kernel
theorem dL_law_1830 : decode cL_law 1830 = .ok (.iaload, 1) := by decide +kernel
theorem dL_law_1831 : decode cL_law 1831 = .ok (.invokevirtual 210, 3) := by decide +kernel
theorem dL_law_1834 : decode cL_law 1834 = .ok (.if_icmp .eq 54, 3) := by decide +kernel
theorem dL_law_1837 : decode cL_law 1837 = .ok (.iconst 0, 1) := by decide +kernel
theorem dL_law_1838 : decode cL_law 1838 = .ok (.ireturn, 1) := by decide +kernel
theorem dL_law_1839 : decode cL_law 1839 = .ok (.aload_n 1, 1) := by decide +kernel
theorem dL_law_1840 : decode cL_law 1840 = .ok (.invokevirtual 211, 3) := by decide +kernel
theorem dL_law_1843 : decode cL_law 1843 = .ok (.aload_n 2, 1) := by decide +kernel
theorem dL_law_1844 : decode cL_law 1844 = .ok (.invokevirtual 214, 3) := by decide +kernel
theorem dL_law_1847 : decode cL_law 1847 = .ok (.goto 41, 3) := by decide +kernel
theorem dL_law_1850 : decode cL_law 1850 = .ok (.aload_n 1, 1) := by decide +kernel
theorem dL_law_1851 : decode cL_law 1851 = .ok (.invokevirtual 215, 3) := by decide +kernel
theorem dL_law_1854 : decode cL_law 1854 = .ok (.aload_n 2, 1) := by decide +kernel
theorem dL_law_1855 : decode cL_law 1855 = .ok (.invokevirtual 219, 3) := by decide +kernel
theorem dL_law_1858 : decode cL_law 1858 = .ok (.if_icmp .eq 30, 3) := by decide +kernel
theorem dL_law_1861 : decode cL_law 1861 = .ok (.iconst 0, 1) := by decide +kernel
theorem dL_law_1862 : decode cL_law 1862 = .ok (.ireturn, 1) := by decide +kernel
theorem dL_law_1863 : decode cL_law 1863 = .ok (.aload_n 1, 1) := by decide +kernel
theorem dL_law_1864 : decode cL_law 1864 = .ok (.aload_n 0, 1) := by decide +kernel
theorem dL_law_1865 : decode cL_law 1865 = .ok (.iload 4, 2) := by decide +kernel
theorem dL_law_1867 : decode cL_law 1867 = .ok (.iconst 1, 1) := by decide +kernel
theorem dL_law_1868 : decode cL_law 1868 = .ok (.iadd, 1) := by decide +kernel
theorem dL_law_1869 : decode cL_law 1869 = .ok (.iaload, 1) := by decide +kernel
theorem dL_law_1870 : decode cL_law 1870 = .ok (.invokevirtual 220, 3) := by decide +kernel
theorem dL_law_1873 : decode cL_law 1873 = .ok (.aload_n 2, 1) := by decide +kernel
theorem dL_law_1874 : decode cL_law 1874 = .ok (.aload_n 0, 1) := by decide +kernel
theorem dL_law_1875 : decode cL_law 1875 = .ok (.iload 4, 2) := by decide +kernel
theorem dL_law_1877 : decode cL_law 1877 = .ok (.iconst 1, 1) := by decide +kernel
theorem dL_law_1878 : decode cL_law 1878 = .ok (.iadd, 1) := by decide +kernel
theorem dL_law_1879 : decode cL_law 1879 = .ok (.iaload, 1) := by decide +kernel
theorem dL_law_1880 : decode cL_law 1880 = .ok (.invokevirtual 223, 3) := by decide +kernel
theorem dL_law_1883 : decode cL_law 1883 = .ok (.if_icmp .eq 5, 3) := by decide +kernel
theorem dL_law_1886 : decode cL_law 1886 = .ok (.iconst 0, 1) := by decide +kernel
theorem dL_law_1887 : decode cL_law 1887 = .ok (.ireturn, 1) := by decide +kernel
theorem dL_law_1888 : decode cL_law 1888 = .ok (.iinc 4 6, 3) := by decide +kernel
theorem dL_law_1891 : decode cL_law 1891 = .ok (.goto (-1868), 3) := by decide +kernel
theorem dL_law_1894 : decode cL_law 1894 = .ok (.iconst 1, 1) := by decide +kernel
theorem dL_law_1895 : decode cL_law 1895 = .ok (.ireturn, 1) := by decide +kernel
