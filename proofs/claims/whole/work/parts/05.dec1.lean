theorem dX8_isSound_81 : decode cX8_isSound 81 = .ok (.iconst 0, 1) := by decide +kernel
theorem dX8_isSound_82 : decode cX8_isSound 82 = .ok (.ireturn, 1) := by decide +kernel
theorem dX8_kind_0 : decode cX8_kind 0 = .ok (.aload_n 0, 1) := by decide +kernel
theorem dX8_kind_1 : decode cX8_kind 1 = .ok (.getfield 58, 3) := by decide +kernel
theorem dX8_kind_4 : decode cX8_kind 4 = .ok (.iload_n 1, 1) := by decide +kernel
theorem dX8_kind_5 : decode cX8_kind 5 = .ok (.invokevirtual 153, 3) := by decide +kernel
theorem dX8_kind_8 : decode cX8_kind 8 = .ok (.ifCond .ne 5, 3) := by decide +kernel
theorem dX8_kind_11 : decode cX8_kind 11 = .ok (.iconst 0, 1) := by decide +kernel
theorem dX8_kind_12 : decode cX8_kind 12 = .ok (.ireturn, 1) := by decide +kernel
theorem dX8_kind_13 : decode cX8_kind 13 = .ok (.aload_n 0, 1) := by decide +kernel
theorem dX8_kind_14 : decode cX8_kind 14 = .ok (.getfield 58, 3) := by decide +kernel
theorem dX8_kind_17 : decode cX8_kind 17 = .ok (.getfield 156, 3) := by decide +kernel
theorem dX8_kind_20 : decode cX8_kind 20 = .ok (.iload_n 1, 1) := by decide +kernel
theorem dX8_kind_21 : decode cX8_kind 21 = .ok (.invokestatic 94, 3) := by decide +kernel
theorem dX8_kind_24 : decode cX8_kind 24 = .ok (.istore_n 2, 1) := by decide +kernel
theorem dX8_kind_25 : decode cX8_kind 25 = .ok (.aload_n 0, 1) := by decide +kernel
theorem dX8_kind_26 : decode cX8_kind 26 = .ok (.getfield 58, 3) := by decide +kernel
theorem dX8_kind_29 : decode cX8_kind 29 = .ok (.getfield 159, 3) := by decide +kernel
theorem dX8_kind_32 : decode cX8_kind 32 = .ok (.iload_n 1, 1) := by decide +kernel
theorem dX8_kind_33 : decode cX8_kind 33 = .ok (.invokestatic 94, 3) := by decide +kernel
theorem dX8_kind_36 : decode cX8_kind 36 = .ok (.istore_n 3, 1) := by decide +kernel
theorem dX8_kind_37 : decode cX8_kind 37 = .ok (.aload_n 0, 1) := by decide +kernel
theorem dX8_kind_38 : decode cX8_kind 38 = .ok (.iload_n 2, 1) := by decide +kernel
theorem dX8_kind_39 : decode cX8_kind 39 = .ok (.invokevirtual 90, 3) := by decide +kernel
theorem dX8_kind_42 : decode cX8_kind 42 = .ok (.ifCond .ne 5, 3) := by decide +kernel
theorem dX8_kind_45 : decode cX8_kind 45 = .ok (.iconst 1, 1) := by decide +kernel
theorem dX8_kind_46 : decode cX8_kind 46 = .ok (.ireturn, 1) := by decide +kernel
theorem dX8_kind_47 : decode cX8_kind 47 = .ok (.iload_n 2, 1) := by decide +kernel
theorem dX8_kind_48 : decode cX8_kind 48 = .ok (.iload_n 3, 1) := by decide +kernel
theorem dX8_kind_49 : decode cX8_kind 49 = .ok (.if_icmp .eq 21, 3) := by decide +kernel
theorem dX8_kind_52 : decode cX8_kind 52 = .ok (.aload_n 0, 1) := by decide +kernel
theorem dX8_kind_53 : decode cX8_kind 53 = .ok (.getfield 52, 3) := by decide +kernel
theorem dX8_kind_56 : decode cX8_kind 56 = .ok (.getfield 115, 3) := by decide +kernel
theorem dX8_kind_59 : decode cX8_kind 59 = .ok (.iload_n 2, 1) := by decide +kernel
theorem dX8_kind_60 : decode cX8_kind 60 = .ok (.invokestatic 94, 3) := by decide +kernel
theorem dX8_kind_63 : decode cX8_kind 63 = .ok (.iload_n 3, 1) := by decide +kernel
theorem dX8_kind_64 : decode cX8_kind 64 = .ok (.invokestatic 98, 3) := by decide +kernel
theorem dX8_kind_67 : decode cX8_kind 67 = .ok (.ifCond .eq 5, 3) := by decide +kernel
theorem dX8_kind_70 : decode cX8_kind 70 = .ok (.iconst 2, 1) := by decide +kernel
theorem dX8_kind_71 : decode cX8_kind 71 = .ok (.ireturn, 1) := by decide +kernel
theorem dX8_kind_72 : decode cX8_kind 72 = .ok (.aload_n 0, 1) := by decide +kernel
theorem dX8_kind_73 : decode cX8_kind 73 = .ok (.getfield 52, 3) := by decide +kernel
theorem dX8_kind_76 : decode cX8_kind 76 = .ok (.getfield 109, 3) := by decide +kernel
theorem dX8_kind_79 : decode cX8_kind 79 = .ok (.iload_n 3, 1) := by decide +kernel
theorem dX8_kind_80 : decode cX8_kind 80 = .ok (.invokestatic 94, 3) := by decide +kernel
theorem dX8_kind_83 : decode cX8_kind 83 = .ok (.iload_n 2, 1) := by decide +kernel
theorem dX8_kind_84 : decode cX8_kind 84 = .ok (.if_icmp .ne 7, 3) := by decide +kernel
theorem dX8_kind_87 : decode cX8_kind 87 = .ok (.iconst 3, 1) := by decide +kernel
theorem dX8_kind_88 : decode cX8_kind 88 = .ok (.goto 4, 3) := by decide +kernel
theorem dX8_kind_91 : decode cX8_kind 91 = .ok (.iconst 4, 1) := by decide +kernel
theorem dX8_kind_92 : decode cX8_kind 92 = .ok (.ireturn, 1) := by decide +kernel
theorem dX8_backArcs_0 : decode cX8_backArcs 0 = .ok (.iconst 0, 1) := by decide +kernel
theorem dX8_backArcs_1 : decode cX8_backArcs 1 = .ok (.istore_n 1, 1) := by decide +kernel
theorem dX8_backArcs_2 : decode cX8_backArcs 2 = .ok (.iconst 0, 1) := by decide +kernel
theorem dX8_backArcs_3 : decode cX8_backArcs 3 = .ok (.istore_n 2, 1) := by decide +kernel
theorem dX8_backArcs_4 : decode cX8_backArcs 4 = .ok (.iload_n 2, 1) := by decide +kernel
theorem dX8_backArcs_5 : decode cX8_backArcs 5 = .ok (.aload_n 0, 1) := by decide +kernel
theorem dX8_backArcs_6 : decode cX8_backArcs 6 = .ok (.getfield 58, 3) := by decide +kernel
theorem dX8_backArcs_9 : decode cX8_backArcs 9 = .ok (.getfield 150, 3) := by decide +kernel
theorem dX8_backArcs_12 : decode cX8_backArcs 12 = .ok (.if_icmp .ge 27, 3) := by decide +kernel
theorem dX8_backArcs_15 : decode cX8_backArcs 15 = .ok (.iload_n 2, 1) := by decide +kernel
theorem dX8_backArcs_16 : decode cX8_backArcs 16 = .ok (.bipush 60, 2) := by decide +kernel
theorem dX8_backArcs_18 : decode cX8_backArcs 18 = .ok (.if_icmp .ge 21, 3) := by decide +kernel
theorem dX8_backArcs_21 : decode cX8_backArcs 21 = .ok (.aload_n 0, 1) := by decide +kernel
theorem dX8_backArcs_22 : decode cX8_backArcs 22 = .ok (.iload_n 2, 1) := by decide +kernel
theorem dX8_backArcs_23 : decode cX8_backArcs 23 = .ok (.invokevirtual 220, 3) := by decide +kernel
theorem dX8_backArcs_26 : decode cX8_backArcs 26 = .ok (.iconst 2, 1) := by decide +kernel
theorem dX8_backArcs_27 : decode cX8_backArcs 27 = .ok (.if_icmp .ne 6, 3) := by decide +kernel
theorem dX8_backArcs_30 : decode cX8_backArcs 30 = .ok (.iinc 1 1, 3) := by decide +kernel
theorem dX8_backArcs_33 : decode cX8_backArcs 33 = .ok (.iinc 2 1, 3) := by decide +kernel
theorem dX8_backArcs_36 : decode cX8_backArcs 36 = .ok (.goto (-32), 3) := by decide +kernel
theorem dX8_backArcs_39 : decode cX8_backArcs 39 = .ok (.iload_n 1, 1) := by decide +kernel
theorem dX8_backArcs_40 : decode cX8_backArcs 40 = .ok (.ireturn, 1) := by decide +kernel
theorem dX8_lostBy_0 : decode cX8_lostBy 0 = .ok (.aload_n 0, 1) := by decide +kernel
theorem dX8_lostBy_1 : decode cX8_lostBy 1 = .ok (.iload_n 1, 1) := by decide +kernel
theorem dX8_lostBy_2 : decode cX8_lostBy 2 = .ok (.invokevirtual 220, 3) := by decide +kernel
theorem dX8_lostBy_5 : decode cX8_lostBy 5 = .ok (.iconst 3, 1) := by decide +kernel
theorem dX8_lostBy_6 : decode cX8_lostBy 6 = .ok (.if_icmp .eq 5, 3) := by decide +kernel
theorem dX8_lostBy_9 : decode cX8_lostBy 9 = .ok (.iconst 0, 1) := by decide +kernel
theorem dX8_lostBy_10 : decode cX8_lostBy 10 = .ok (.ireturn, 1) := by decide +kernel
theorem dX8_lostBy_11 : decode cX8_lostBy 11 = .ok (.aload_n 0, 1) := by decide +kernel
theorem dX8_lostBy_12 : decode cX8_lostBy 12 = .ok (.getfield 58, 3) := by decide +kernel
theorem dX8_lostBy_15 : decode cX8_lostBy 15 = .ok (.aload_n 0, 1) := by decide +kernel
theorem dX8_lostBy_16 : decode cX8_lostBy 16 = .ok (.getfield 55, 3) := by decide +kernel
theorem dX8_lostBy_19 : decode cX8_lostBy 19 = .ok (.getfield 62, 3) := by decide +kernel
theorem dX8_lostBy_22 : decode cX8_lostBy 22 = .ok (.iload_n 1, 1) := by decide +kernel
theorem dX8_lostBy_23 : decode cX8_lostBy 23 = .ok (.invokevirtual 65, 3) := by decide +kernel
theorem dX8_lostBy_26 : decode cX8_lostBy 26 = .ok (.aload_n 0, 1) := by decide +kernel
theorem dX8_lostBy_27 : decode cX8_lostBy 27 = .ok (.getfield 52, 3) := by decide +kernel
theorem dX8_lostBy_30 : decode cX8_lostBy 30 = .ok (.getfield 106, 3) := by decide +kernel
theorem dX8_lostBy_33 : decode cX8_lostBy 33 = .ok (.aload_n 0, 1) := by decide +kernel
theorem dX8_lostBy_34 : decode cX8_lostBy 34 = .ok (.getfield 55, 3) := by decide +kernel
theorem dX8_lostBy_37 : decode cX8_lostBy 37 = .ok (.getfield 62, 3) := by decide +kernel
theorem dX8_lostBy_40 : decode cX8_lostBy 40 = .ok (.aload_n 0, 1) := by decide +kernel
theorem dX8_lostBy_41 : decode cX8_lostBy 41 = .ok (.getfield 58, 3) := by decide +kernel
theorem dX8_lostBy_44 : decode cX8_lostBy 44 = .ok (.getfield 71, 3) := by decide +kernel
theorem dX8_lostBy_47 : decode cX8_lostBy 47 = .ok (.invokestatic 75, 3) := by decide +kernel
theorem dX8_lostBy_50 : decode cX8_lostBy 50 = .ok (.iconst 0, 1) := by decide +kernel
theorem dX8_lostBy_51 : decode cX8_lostBy 51 = .ok (.invokestatic 127, 3) := by decide +kernel
theorem dX8_lostBy_54 : decode cX8_lostBy 54 = .ok (.iconst (-1), 1) := by decide +kernel
theorem dX8_lostBy_55 : decode cX8_lostBy 55 = .ok (.ixor, 1) := by decide +kernel
theorem dX8_lostBy_56 : decode cX8_lostBy 56 = .ok (.iand, 1) := by decide +kernel
theorem dX8_lostBy_57 : decode cX8_lostBy 57 = .ok (.ireturn, 1) := by decide +kernel
theorem dX8_isBridge_0 : decode cX8_isBridge 0 = .ok (.aload_n 0, 1) := by decide +kernel
theorem dX8_isBridge_1 : decode cX8_isBridge 1 = .ok (.iload_n 1, 1) := by decide +kernel
theorem dX8_isBridge_2 : decode cX8_isBridge 2 = .ok (.invokevirtual 223, 3) := by decide +kernel
theorem dX8_isBridge_5 : decode cX8_isBridge 5 = .ok (.aload_n 0, 1) := by decide +kernel
theorem dX8_isBridge_6 : decode cX8_isBridge 6 = .ok (.getfield 58, 3) := by decide +kernel
theorem dX8_isBridge_9 : decode cX8_isBridge 9 = .ok (.getfield 159, 3) := by decide +kernel
theorem dX8_isBridge_12 : decode cX8_isBridge 12 = .ok (.iload_n 1, 1) := by decide +kernel
theorem dX8_isBridge_13 : decode cX8_isBridge 13 = .ok (.invokestatic 94, 3) := by decide +kernel
theorem dX8_isBridge_16 : decode cX8_isBridge 16 = .ok (.invokestatic 98, 3) := by decide +kernel
theorem dX8_isBridge_19 : decode cX8_isBridge 19 = .ok (.ireturn, 1) := by decide +kernel
theorem dX8_bridges_0 : decode cX8_bridges 0 = .ok (.iconst 0, 1) := by decide +kernel
theorem dX8_bridges_1 : decode cX8_bridges 1 = .ok (.istore_n 1, 1) := by decide +kernel
theorem dX8_bridges_2 : decode cX8_bridges 2 = .ok (.iconst 0, 1) := by decide +kernel
theorem dX8_bridges_3 : decode cX8_bridges 3 = .ok (.istore_n 2, 1) := by decide +kernel
theorem dX8_bridges_4 : decode cX8_bridges 4 = .ok (.iload_n 2, 1) := by decide +kernel
theorem dX8_bridges_5 : decode cX8_bridges 5 = .ok (.aload_n 0, 1) := by decide +kernel
theorem dX8_bridges_6 : decode cX8_bridges 6 = .ok (.getfield 58, 3) := by decide +kernel
theorem dX8_bridges_9 : decode cX8_bridges 9 = .ok (.getfield 150, 3) := by decide +kernel
theorem dX8_bridges_12 : decode cX8_bridges 12 = .ok (.if_icmp .ge 26, 3) := by decide +kernel
theorem dX8_bridges_15 : decode cX8_bridges 15 = .ok (.iload_n 2, 1) := by decide +kernel
theorem dX8_bridges_16 : decode cX8_bridges 16 = .ok (.bipush 60, 2) := by decide +kernel
theorem dX8_bridges_18 : decode cX8_bridges 18 = .ok (.if_icmp .ge 20, 3) := by decide +kernel
theorem dX8_bridges_21 : decode cX8_bridges 21 = .ok (.aload_n 0, 1) := by decide +kernel
theorem dX8_bridges_22 : decode cX8_bridges 22 = .ok (.iload_n 2, 1) := by decide +kernel
theorem dX8_bridges_23 : decode cX8_bridges 23 = .ok (.invokevirtual 226, 3) := by decide +kernel
theorem dX8_bridges_26 : decode cX8_bridges 26 = .ok (.ifCond .eq 6, 3) := by decide +kernel
theorem dX8_bridges_29 : decode cX8_bridges 29 = .ok (.iinc 1 1, 3) := by decide +kernel
theorem dX8_bridges_32 : decode cX8_bridges 32 = .ok (.iinc 2 1, 3) := by decide +kernel
theorem dX8_bridges_35 : decode cX8_bridges 35 = .ok (.goto (-31), 3) := by decide +kernel
theorem dX8_bridges_38 : decode cX8_bridges 38 = .ok (.iload_n 1, 1) := by decide +kernel
theorem dX8_bridges_39 : decode cX8_bridges 39 = .ok (.ireturn, 1) := by decide +kernel
theorem dX8_passed_0 : decode cX8_passed 0 = .ok (.aload_n 0, 1) := by decide +kernel
theorem dX8_passed_1 : decode cX8_passed 1 = .ok (.iload_n 1, 1) := by decide +kernel
theorem dX8_passed_2 : decode cX8_passed 2 = .ok (.invokevirtual 90, 3) := by decide +kernel
theorem dX8_passed_5 : decode cX8_passed 5 = .ok (.ifCond .ne 5, 3) := by decide +kernel
theorem dX8_passed_8 : decode cX8_passed 8 = .ok (.iconst (-1), 1) := by decide +kernel
theorem dX8_passed_9 : decode cX8_passed 9 = .ok (.ireturn, 1) := by decide +kernel
theorem dX8_passed_10 : decode cX8_passed 10 = .ok (.iconst 0, 1) := by decide +kernel
theorem dX8_passed_11 : decode cX8_passed 11 = .ok (.istore_n 3, 1) := by decide +kernel
theorem dX8_passed_12 : decode cX8_passed 12 = .ok (.iconst 1, 1) := by decide +kernel
theorem dX8_passed_13 : decode cX8_passed 13 = .ok (.istore 4, 2) := by decide +kernel
theorem dX8_passed_15 : decode cX8_passed 15 = .ok (.iload 4, 2) := by decide +kernel
theorem dX8_passed_17 : decode cX8_passed 17 = .ok (.aload_n 0, 1) := by decide +kernel
theorem dX8_passed_18 : decode cX8_passed 18 = .ok (.getfield 52, 3) := by decide +kernel
theorem dX8_passed_21 : decode cX8_passed 21 = .ok (.iload_n 1, 1) := by decide +kernel
theorem dX8_passed_22 : decode cX8_passed 22 = .ok (.invokevirtual 124, 3) := by decide +kernel
theorem dX8_passed_25 : decode cX8_passed 25 = .ok (.if_icmp .gt 46, 3) := by decide +kernel
theorem dX8_passed_28 : decode cX8_passed 28 = .ok (.iload 4, 2) := by decide +kernel
theorem dX8_passed_30 : decode cX8_passed 30 = .ok (.bipush 16, 2) := by decide +kernel
theorem dX8_passed_32 : decode cX8_passed 32 = .ok (.if_icmp .ge 39, 3) := by decide +kernel
theorem dX8_passed_35 : decode cX8_passed 35 = .ok (.aload_n 0, 1) := by decide +kernel
theorem dX8_passed_36 : decode cX8_passed 36 = .ok (.aload_n 0, 1) := by decide +kernel
theorem dX8_passed_37 : decode cX8_passed 37 = .ok (.iload_n 1, 1) := by decide +kernel
theorem dX8_passed_38 : decode cX8_passed 38 = .ok (.iload 4, 2) := by decide +kernel
theorem dX8_passed_40 : decode cX8_passed 40 = .ok (.invokevirtual 229, 3) := by decide +kernel
theorem dX8_passed_43 : decode cX8_passed 43 = .ok (.invokevirtual 232, 3) := by decide +kernel
theorem dX8_passed_46 : decode cX8_passed 46 = .ok (.istore 5, 2) := by decide +kernel
theorem dX8_passed_48 : decode cX8_passed 48 = .ok (.iload 5, 2) := by decide +kernel
theorem dX8_passed_50 : decode cX8_passed 50 = .ok (.iconst (-1), 1) := by decide +kernel
theorem dX8_passed_51 : decode cX8_passed 51 = .ok (.if_icmp .eq 14, 3) := by decide +kernel
theorem dX8_passed_54 : decode cX8_passed 54 = .ok (.iload_n 3, 1) := by decide +kernel
theorem dX8_passed_55 : decode cX8_passed 55 = .ok (.iload_n 2, 1) := by decide +kernel
theorem dX8_passed_56 : decode cX8_passed 56 = .ok (.if_icmp .ne 6, 3) := by decide +kernel
theorem dX8_passed_59 : decode cX8_passed 59 = .ok (.iload 5, 2) := by decide +kernel
theorem dX8_passed_61 : decode cX8_passed 61 = .ok (.ireturn, 1) := by decide +kernel
theorem dX8_passed_62 : decode cX8_passed 62 = .ok (.iinc 3 1, 3) := by decide +kernel
theorem dX8_passed_65 : decode cX8_passed 65 = .ok (.iinc 4 1, 3) := by decide +kernel
theorem dX8_passed_68 : decode cX8_passed 68 = .ok (.goto (-53), 3) := by decide +kernel
theorem dX8_passed_71 : decode cX8_passed 71 = .ok (.iload_n 2, 1) := by decide +kernel
theorem dX8_passed_72 : decode cX8_passed 72 = .ok (.iconst (-1), 1) := by decide +kernel
theorem dX8_passed_73 : decode cX8_passed 73 = .ok (.if_icmp .ne 7, 3) := by decide +kernel
theorem dX8_passed_76 : decode cX8_passed 76 = .ok (.iload_n 3, 1) := by decide +kernel
theorem dX8_passed_77 : decode cX8_passed 77 = .ok (.goto 4, 3) := by decide +kernel
theorem dX8_passed_80 : decode cX8_passed 80 = .ok (.iconst (-1), 1) := by decide +kernel
theorem dX8_passed_81 : decode cX8_passed 81 = .ok (.ireturn, 1) := by decide +kernel
theorem dX8_bridgeTo_0 : decode cX8_bridgeTo 0 = .ok (.iconst 0, 1) := by decide +kernel
theorem dX8_bridgeTo_1 : decode cX8_bridgeTo 1 = .ok (.istore_n 2, 1) := by decide +kernel
theorem dX8_bridgeTo_2 : decode cX8_bridgeTo 2 = .ok (.iload_n 2, 1) := by decide +kernel
theorem dX8_bridgeTo_3 : decode cX8_bridgeTo 3 = .ok (.aload_n 0, 1) := by decide +kernel
theorem dX8_bridgeTo_4 : decode cX8_bridgeTo 4 = .ok (.getfield 58, 3) := by decide +kernel
theorem dX8_bridgeTo_7 : decode cX8_bridgeTo 7 = .ok (.getfield 150, 3) := by decide +kernel
theorem dX8_bridgeTo_10 : decode cX8_bridgeTo 10 = .ok (.if_icmp .ge 40, 3) := by decide +kernel
theorem dX8_bridgeTo_13 : decode cX8_bridgeTo 13 = .ok (.iload_n 2, 1) := by decide +kernel
theorem dX8_bridgeTo_14 : decode cX8_bridgeTo 14 = .ok (.bipush 60, 2) := by decide +kernel
theorem dX8_bridgeTo_16 : decode cX8_bridgeTo 16 = .ok (.if_icmp .ge 34, 3) := by decide +kernel
theorem dX8_bridgeTo_19 : decode cX8_bridgeTo 19 = .ok (.aload_n 0, 1) := by decide +kernel
theorem dX8_bridgeTo_20 : decode cX8_bridgeTo 20 = .ok (.getfield 58, 3) := by decide +kernel
theorem dX8_bridgeTo_23 : decode cX8_bridgeTo 23 = .ok (.getfield 159, 3) := by decide +kernel
theorem dX8_bridgeTo_26 : decode cX8_bridgeTo 26 = .ok (.iload_n 2, 1) := by decide +kernel
theorem dX8_bridgeTo_27 : decode cX8_bridgeTo 27 = .ok (.invokestatic 94, 3) := by decide +kernel
theorem dX8_bridgeTo_30 : decode cX8_bridgeTo 30 = .ok (.iload_n 1, 1) := by decide +kernel
theorem dX8_bridgeTo_31 : decode cX8_bridgeTo 31 = .ok (.if_icmp .ne 13, 3) := by decide +kernel
theorem dX8_bridgeTo_34 : decode cX8_bridgeTo 34 = .ok (.aload_n 0, 1) := by decide +kernel
theorem dX8_bridgeTo_35 : decode cX8_bridgeTo 35 = .ok (.iload_n 2, 1) := by decide +kernel
theorem dX8_bridgeTo_36 : decode cX8_bridgeTo 36 = .ok (.invokevirtual 226, 3) := by decide +kernel
theorem dX8_bridgeTo_39 : decode cX8_bridgeTo 39 = .ok (.ifCond .eq 5, 3) := by decide +kernel
theorem dX8_bridgeTo_42 : decode cX8_bridgeTo 42 = .ok (.iload_n 2, 1) := by decide +kernel
theorem dX8_bridgeTo_43 : decode cX8_bridgeTo 43 = .ok (.ireturn, 1) := by decide +kernel
theorem dX8_bridgeTo_44 : decode cX8_bridgeTo 44 = .ok (.iinc 2 1, 3) := by decide +kernel
theorem dX8_bridgeTo_47 : decode cX8_bridgeTo 47 = .ok (.goto (-45), 3) := by decide +kernel
theorem dX8_bridgeTo_50 : decode cX8_bridgeTo 50 = .ok (.iconst (-1), 1) := by decide +kernel
theorem dX8_bridgeTo_51 : decode cX8_bridgeTo 51 = .ok (.ireturn, 1) := by decide +kernel
theorem dX8_worstArc_0 : decode cX8_worstArc 0 = .ok (.iconst (-1), 1) := by decide +kernel
theorem dX8_worstArc_1 : decode cX8_worstArc 1 = .ok (.istore_n 1, 1) := by decide +kernel
theorem dX8_worstArc_2 : decode cX8_worstArc 2 = .ok (.iconst 0, 1) := by decide +kernel
theorem dX8_worstArc_3 : decode cX8_worstArc 3 = .ok (.istore_n 2, 1) := by decide +kernel
theorem dX8_worstArc_4 : decode cX8_worstArc 4 = .ok (.iconst 0, 1) := by decide +kernel
theorem dX8_worstArc_5 : decode cX8_worstArc 5 = .ok (.istore_n 3, 1) := by decide +kernel
theorem dX8_worstArc_6 : decode cX8_worstArc 6 = .ok (.iload_n 3, 1) := by decide +kernel
theorem dX8_worstArc_7 : decode cX8_worstArc 7 = .ok (.aload_n 0, 1) := by decide +kernel
theorem dX8_worstArc_8 : decode cX8_worstArc 8 = .ok (.getfield 58, 3) := by decide +kernel
theorem dX8_worstArc_11 : decode cX8_worstArc 11 = .ok (.getfield 150, 3) := by decide +kernel
theorem dX8_worstArc_14 : decode cX8_worstArc 14 = .ok (.if_icmp .ge 36, 3) := by decide +kernel
theorem dX8_worstArc_17 : decode cX8_worstArc 17 = .ok (.iload_n 3, 1) := by decide +kernel
theorem dX8_worstArc_18 : decode cX8_worstArc 18 = .ok (.bipush 60, 2) := by decide +kernel
theorem dX8_worstArc_20 : decode cX8_worstArc 20 = .ok (.if_icmp .ge 30, 3) := by decide +kernel
theorem dX8_worstArc_23 : decode cX8_worstArc 23 = .ok (.aload_n 0, 1) := by decide +kernel
theorem dX8_worstArc_24 : decode cX8_worstArc 24 = .ok (.iload_n 3, 1) := by decide +kernel
theorem dX8_worstArc_25 : decode cX8_worstArc 25 = .ok (.invokevirtual 223, 3) := by decide +kernel
theorem dX8_worstArc_28 : decode cX8_worstArc 28 = .ok (.invokestatic 183, 3) := by decide +kernel
theorem dX8_worstArc_31 : decode cX8_worstArc 31 = .ok (.istore 4, 2) := by decide +kernel
theorem dX8_worstArc_33 : decode cX8_worstArc 33 = .ok (.iload 4, 2) := by decide +kernel
theorem dX8_worstArc_35 : decode cX8_worstArc 35 = .ok (.iload_n 2, 1) := by decide +kernel
theorem dX8_worstArc_36 : decode cX8_worstArc 36 = .ok (.if_icmp .le 8, 3) := by decide +kernel
theorem dX8_worstArc_39 : decode cX8_worstArc 39 = .ok (.iload 4, 2) := by decide +kernel
theorem dX8_worstArc_41 : decode cX8_worstArc 41 = .ok (.istore_n 2, 1) := by decide +kernel
theorem dX8_worstArc_42 : decode cX8_worstArc 42 = .ok (.iload_n 3, 1) := by decide +kernel
theorem dX8_worstArc_43 : decode cX8_worstArc 43 = .ok (.istore_n 1, 1) := by decide +kernel
theorem dX8_worstArc_44 : decode cX8_worstArc 44 = .ok (.iinc 3 1, 3) := by decide +kernel
theorem dX8_worstArc_47 : decode cX8_worstArc 47 = .ok (.goto (-41), 3) := by decide +kernel
theorem dX8_worstArc_50 : decode cX8_worstArc 50 = .ok (.iload_n 1, 1) := by decide +kernel
theorem dX8_worstArc_51 : decode cX8_worstArc 51 = .ok (.ireturn, 1) := by decide +kernel
theorem dX8_tied_0 : decode cX8_tied 0 = .ok (.aload_n 0, 1) := by decide +kernel
theorem dX8_tied_1 : decode cX8_tied 1 = .ok (.iload_n 1, 1) := by decide +kernel
theorem dX8_tied_2 : decode cX8_tied 2 = .ok (.invokevirtual 90, 3) := by decide +kernel
theorem dX8_tied_5 : decode cX8_tied 5 = .ok (.ifCond .ne 5, 3) := by decide +kernel
theorem dX8_tied_8 : decode cX8_tied 8 = .ok (.iconst 0, 1) := by decide +kernel
theorem dX8_tied_9 : decode cX8_tied 9 = .ok (.ireturn, 1) := by decide +kernel
theorem dX8_tied_10 : decode cX8_tied 10 = .ok (.aload_n 0, 1) := by decide +kernel
theorem dX8_tied_11 : decode cX8_tied 11 = .ok (.getfield 52, 3) := by decide +kernel
theorem dX8_tied_14 : decode cX8_tied 14 = .ok (.getfield 106, 3) := by decide +kernel
theorem dX8_tied_17 : decode cX8_tied 17 = .ok (.istore_n 2, 1) := by decide +kernel
theorem dX8_tied_18 : decode cX8_tied 18 = .ok (.iconst 0, 1) := by decide +kernel
theorem dX8_tied_19 : decode cX8_tied 19 = .ok (.istore_n 3, 1) := by decide +kernel
theorem dX8_tied_20 : decode cX8_tied 20 = .ok (.iload_n 3, 1) := by decide +kernel
theorem dX8_tied_21 : decode cX8_tied 21 = .ok (.aload_n 0, 1) := by decide +kernel
theorem dX8_tied_22 : decode cX8_tied 22 = .ok (.getfield 58, 3) := by decide +kernel
theorem dX8_tied_25 : decode cX8_tied 25 = .ok (.getfield 150, 3) := by decide +kernel
theorem dX8_tied_28 : decode cX8_tied 28 = .ok (.if_icmp .ge 43, 3) := by decide +kernel
theorem dX8_tied_31 : decode cX8_tied 31 = .ok (.iload_n 3, 1) := by decide +kernel
theorem dX8_tied_32 : decode cX8_tied 32 = .ok (.bipush 60, 2) := by decide +kernel
theorem dX8_tied_34 : decode cX8_tied 34 = .ok (.if_icmp .ge 37, 3) := by decide +kernel
theorem dX8_tied_37 : decode cX8_tied 37 = .ok (.aload_n 0, 1) := by decide +kernel
theorem dX8_tied_38 : decode cX8_tied 38 = .ok (.iload_n 3, 1) := by decide +kernel
theorem dX8_tied_39 : decode cX8_tied 39 = .ok (.invokevirtual 223, 3) := by decide +kernel
theorem dX8_tied_42 : decode cX8_tied 42 = .ok (.istore 4, 2) := by decide +kernel
theorem dX8_tied_44 : decode cX8_tied 44 = .ok (.iload_n 2, 1) := by decide +kernel
theorem dX8_tied_45 : decode cX8_tied 45 = .ok (.iload 4, 2) := by decide +kernel
theorem dX8_tied_47 : decode cX8_tied 47 = .ok (.iload_n 1, 1) := by decide +kernel
theorem dX8_tied_48 : decode cX8_tied 48 = .ok (.invokestatic 98, 3) := by decide +kernel
theorem dX8_tied_51 : decode cX8_tied 51 = .ok (.ifCond .eq 8, 3) := by decide +kernel
theorem dX8_tied_54 : decode cX8_tied 54 = .ok (.iload 4, 2) := by decide +kernel
theorem dX8_tied_56 : decode cX8_tied 56 = .ok (.goto 7, 3) := by decide +kernel
theorem dX8_tied_59 : decode cX8_tied 59 = .ok (.iload 4, 2) := by decide +kernel
theorem dX8_tied_61 : decode cX8_tied 61 = .ok (.iconst (-1), 1) := by decide +kernel
theorem dX8_tied_62 : decode cX8_tied 62 = .ok (.ixor, 1) := by decide +kernel
theorem dX8_tied_63 : decode cX8_tied 63 = .ok (.iand, 1) := by decide +kernel
theorem dX8_tied_64 : decode cX8_tied 64 = .ok (.istore_n 2, 1) := by decide +kernel
theorem dX8_tied_65 : decode cX8_tied 65 = .ok (.iinc 3 1, 3) := by decide +kernel
theorem dX8_tied_68 : decode cX8_tied 68 = .ok (.goto (-48), 3) := by decide +kernel
theorem dX8_tied_71 : decode cX8_tied 71 = .ok (.iload_n 2, 1) := by decide +kernel
theorem dX8_tied_72 : decode cX8_tied 72 = .ok (.ireturn, 1) := by decide +kernel
theorem dX8_ifShut_0 : decode cX8_ifShut 0 = .ok (.aload_n 0, 1) := by decide +kernel
theorem dX8_ifShut_1 : decode cX8_ifShut 1 = .ok (.getfield 58, 3) := by decide +kernel
theorem dX8_ifShut_4 : decode cX8_ifShut 4 = .ok (.aload_n 0, 1) := by decide +kernel
theorem dX8_ifShut_5 : decode cX8_ifShut 5 = .ok (.getfield 55, 3) := by decide +kernel
theorem dX8_ifShut_8 : decode cX8_ifShut 8 = .ok (.getfield 62, 3) := by decide +kernel
theorem dX8_ifShut_11 : decode cX8_ifShut 11 = .ok (.iload_n 1, 1) := by decide +kernel
theorem dX8_ifShut_12 : decode cX8_ifShut 12 = .ok (.invokevirtual 65, 3) := by decide +kernel
theorem dX8_ifShut_15 : decode cX8_ifShut 15 = .ok (.aload_n 0, 1) := by decide +kernel
theorem dX8_ifShut_16 : decode cX8_ifShut 16 = .ok (.getfield 55, 3) := by decide +kernel
theorem dX8_ifShut_19 : decode cX8_ifShut 19 = .ok (.aload_n 0, 1) := by decide +kernel
theorem dX8_ifShut_20 : decode cX8_ifShut 20 = .ok (.getfield 58, 3) := by decide +kernel
theorem dX8_ifShut_23 : decode cX8_ifShut 23 = .ok (.getfield 71, 3) := by decide +kernel
theorem dX8_ifShut_26 : decode cX8_ifShut 26 = .ok (.invokestatic 75, 3) := by decide +kernel
theorem dX8_ifShut_29 : decode cX8_ifShut 29 = .ok (.invokevirtual 79, 3) := by decide +kernel
theorem dX8_ifShut_32 : decode cX8_ifShut 32 = .ok (.aload_n 0, 1) := by decide +kernel
theorem dX8_ifShut_33 : decode cX8_ifShut 33 = .ok (.getfield 48, 3) := by decide +kernel
theorem dX8_ifShut_36 : decode cX8_ifShut 36 = .ok (.aload_n 0, 1) := by decide +kernel
theorem dX8_ifShut_37 : decode cX8_ifShut 37 = .ok (.getfield 52, 3) := by decide +kernel
theorem dX8_ifShut_40 : decode cX8_ifShut 40 = .ok (.aload_n 0, 1) := by decide +kernel
theorem dX8_ifShut_41 : decode cX8_ifShut 41 = .ok (.getfield 55, 3) := by decide +kernel
theorem dX8_ifShut_44 : decode cX8_ifShut 44 = .ok (.invokevirtual 86, 3) := by decide +kernel
theorem dX8_ifShut_47 : decode cX8_ifShut 47 = .ok (.aload_n 0, 1) := by decide +kernel
theorem dX8_ifShut_48 : decode cX8_ifShut 48 = .ok (.getfield 48, 3) := by decide +kernel
theorem dX8_ifShut_51 : decode cX8_ifShut 51 = .ok (.areturn, 1) := by decide +kernel
theorem dX8_ifLaid_0 : decode cX8_ifLaid 0 = .ok (.aload_n 0, 1) := by decide +kernel
theorem dX8_ifLaid_1 : decode cX8_ifLaid 1 = .ok (.getfield 58, 3) := by decide +kernel
theorem dX8_ifLaid_4 : decode cX8_ifLaid 4 = .ok (.aload_n 0, 1) := by decide +kernel
theorem dX8_ifLaid_5 : decode cX8_ifLaid 5 = .ok (.getfield 55, 3) := by decide +kernel
theorem dX8_ifLaid_8 : decode cX8_ifLaid 8 = .ok (.getfield 62, 3) := by decide +kernel
theorem dX8_ifLaid_11 : decode cX8_ifLaid 11 = .ok (.iconst (-1), 1) := by decide +kernel
theorem dX8_ifLaid_12 : decode cX8_ifLaid 12 = .ok (.invokevirtual 65, 3) := by decide +kernel
theorem dX8_ifLaid_15 : decode cX8_ifLaid 15 = .ok (.aload_n 0, 1) := by decide +kernel
theorem dX8_ifLaid_16 : decode cX8_ifLaid 16 = .ok (.getfield 55, 3) := by decide +kernel
theorem dX8_ifLaid_19 : decode cX8_ifLaid 19 = .ok (.getfield 62, 3) := by decide +kernel
theorem dX8_ifLaid_22 : decode cX8_ifLaid 22 = .ok (.iload_n 1, 1) := by decide +kernel
theorem dX8_ifLaid_23 : decode cX8_ifLaid 23 = .ok (.aload_n 0, 1) := by decide +kernel
theorem dX8_ifLaid_24 : decode cX8_ifLaid 24 = .ok (.getfield 55, 3) := by decide +kernel
theorem dX8_ifLaid_27 : decode cX8_ifLaid 27 = .ok (.getfield 62, 3) := by decide +kernel
theorem dX8_ifLaid_30 : decode cX8_ifLaid 30 = .ok (.iload_n 1, 1) := by decide +kernel
theorem dX8_ifLaid_31 : decode cX8_ifLaid 31 = .ok (.invokestatic 94, 3) := by decide +kernel
theorem dX8_ifLaid_34 : decode cX8_ifLaid 34 = .ok (.iload_n 2, 1) := by decide +kernel
theorem dX8_ifLaid_35 : decode cX8_ifLaid 35 = .ok (.invokestatic 75, 3) := by decide +kernel
theorem dX8_ifLaid_38 : decode cX8_ifLaid 38 = .ok (.ior, 1) := by decide +kernel
theorem dX8_ifLaid_39 : decode cX8_ifLaid 39 = .ok (.invokestatic 102, 3) := by decide +kernel
theorem dX8_ifLaid_42 : decode cX8_ifLaid 42 = .ok (.aload_n 0, 1) := by decide +kernel
theorem dX8_ifLaid_43 : decode cX8_ifLaid 43 = .ok (.getfield 55, 3) := by decide +kernel
theorem dX8_ifLaid_46 : decode cX8_ifLaid 46 = .ok (.aload_n 0, 1) := by decide +kernel
theorem dX8_ifLaid_47 : decode cX8_ifLaid 47 = .ok (.getfield 58, 3) := by decide +kernel
theorem dX8_ifLaid_50 : decode cX8_ifLaid 50 = .ok (.getfield 71, 3) := by decide +kernel
theorem dX8_ifLaid_53 : decode cX8_ifLaid 53 = .ok (.invokestatic 75, 3) := by decide +kernel
theorem dX8_ifLaid_56 : decode cX8_ifLaid 56 = .ok (.invokevirtual 79, 3) := by decide +kernel
theorem dX8_ifLaid_59 : decode cX8_ifLaid 59 = .ok (.aload_n 0, 1) := by decide +kernel
theorem dX8_ifLaid_60 : decode cX8_ifLaid 60 = .ok (.getfield 48, 3) := by decide +kernel
theorem dX8_ifLaid_63 : decode cX8_ifLaid 63 = .ok (.aload_n 0, 1) := by decide +kernel
theorem dX8_ifLaid_64 : decode cX8_ifLaid 64 = .ok (.getfield 52, 3) := by decide +kernel
theorem dX8_ifLaid_67 : decode cX8_ifLaid 67 = .ok (.aload_n 0, 1) := by decide +kernel
theorem dX8_ifLaid_68 : decode cX8_ifLaid 68 = .ok (.getfield 55, 3) := by decide +kernel
theorem dX8_ifLaid_71 : decode cX8_ifLaid 71 = .ok (.invokevirtual 86, 3) := by decide +kernel
theorem dX8_ifLaid_74 : decode cX8_ifLaid 74 = .ok (.aload_n 0, 1) := by decide +kernel
theorem dX8_ifLaid_75 : decode cX8_ifLaid 75 = .ok (.getfield 48, 3) := by decide +kernel
theorem dX8_ifLaid_78 : decode cX8_ifLaid 78 = .ok (.areturn, 1) := by decide +kernel
theorem dX8_spareArcs_0 : decode cX8_spareArcs 0 = .ok (.iconst 0, 1) := by decide +kernel
theorem dX8_spareArcs_1 : decode cX8_spareArcs 1 = .ok (.istore_n 1, 1) := by decide +kernel
theorem dX8_spareArcs_2 : decode cX8_spareArcs 2 = .ok (.iconst 0, 1) := by decide +kernel
theorem dX8_spareArcs_3 : decode cX8_spareArcs 3 = .ok (.istore_n 2, 1) := by decide +kernel
theorem dX8_spareArcs_4 : decode cX8_spareArcs 4 = .ok (.iload_n 2, 1) := by decide +kernel
theorem dX8_spareArcs_5 : decode cX8_spareArcs 5 = .ok (.aload_n 0, 1) := by decide +kernel
theorem dX8_spareArcs_6 : decode cX8_spareArcs 6 = .ok (.getfield 58, 3) := by decide +kernel
theorem dX8_spareArcs_9 : decode cX8_spareArcs 9 = .ok (.getfield 150, 3) := by decide +kernel
theorem dX8_spareArcs_12 : decode cX8_spareArcs 12 = .ok (.if_icmp .ge 26, 3) := by decide +kernel
theorem dX8_spareArcs_15 : decode cX8_spareArcs 15 = .ok (.iload_n 2, 1) := by decide +kernel
theorem dX8_spareArcs_16 : decode cX8_spareArcs 16 = .ok (.bipush 60, 2) := by decide +kernel
theorem dX8_spareArcs_18 : decode cX8_spareArcs 18 = .ok (.if_icmp .ge 20, 3) := by decide +kernel
theorem dX8_spareArcs_21 : decode cX8_spareArcs 21 = .ok (.aload_n 0, 1) := by decide +kernel
theorem dX8_spareArcs_22 : decode cX8_spareArcs 22 = .ok (.iload_n 2, 1) := by decide +kernel
theorem dX8_spareArcs_23 : decode cX8_spareArcs 23 = .ok (.invokevirtual 235, 3) := by decide +kernel
theorem dX8_spareArcs_26 : decode cX8_spareArcs 26 = .ok (.ifCond .eq 6, 3) := by decide +kernel
theorem dX8_spareArcs_29 : decode cX8_spareArcs 29 = .ok (.iinc 1 1, 3) := by decide +kernel
theorem dX8_spareArcs_32 : decode cX8_spareArcs 32 = .ok (.iinc 2 1, 3) := by decide +kernel
theorem dX8_spareArcs_35 : decode cX8_spareArcs 35 = .ok (.goto (-31), 3) := by decide +kernel
theorem dX8_spareArcs_38 : decode cX8_spareArcs 38 = .ok (.iload_n 1, 1) := by decide +kernel
theorem dX8_spareArcs_39 : decode cX8_spareArcs 39 = .ok (.ireturn, 1) := by decide +kernel
theorem dX8_isSpare_0 : decode cX8_isSpare 0 = .ok (.aload_n 0, 1) := by decide +kernel
theorem dX8_isSpare_1 : decode cX8_isSpare 1 = .ok (.iload_n 1, 1) := by decide +kernel
theorem dX8_isSpare_2 : decode cX8_isSpare 2 = .ok (.invokevirtual 220, 3) := by decide +kernel
theorem dX8_isSpare_5 : decode cX8_isSpare 5 = .ok (.istore_n 2, 1) := by decide +kernel
theorem dX8_isSpare_6 : decode cX8_isSpare 6 = .ok (.iload_n 2, 1) := by decide +kernel
theorem dX8_isSpare_7 : decode cX8_isSpare 7 = .ok (.ifCond .ne 5, 3) := by decide +kernel
theorem dX8_isSpare_10 : decode cX8_isSpare 10 = .ok (.iconst 0, 1) := by decide +kernel
theorem dX8_isSpare_11 : decode cX8_isSpare 11 = .ok (.ireturn, 1) := by decide +kernel
theorem dX8_isSpare_12 : decode cX8_isSpare 12 = .ok (.iload_n 2, 1) := by decide +kernel
theorem dX8_isSpare_13 : decode cX8_isSpare 13 = .ok (.iconst 1, 1) := by decide +kernel
theorem dX8_isSpare_14 : decode cX8_isSpare 14 = .ok (.if_icmp .eq 8, 3) := by decide +kernel
theorem dX8_isSpare_17 : decode cX8_isSpare 17 = .ok (.iload_n 2, 1) := by decide +kernel
theorem dX8_isSpare_18 : decode cX8_isSpare 18 = .ok (.iconst 2, 1) := by decide +kernel
theorem dX8_isSpare_19 : decode cX8_isSpare 19 = .ok (.if_icmp .ne 5, 3) := by decide +kernel
theorem dX8_isSpare_22 : decode cX8_isSpare 22 = .ok (.iconst 1, 1) := by decide +kernel
theorem dX8_isSpare_23 : decode cX8_isSpare 23 = .ok (.ireturn, 1) := by decide +kernel
theorem dX8_isSpare_24 : decode cX8_isSpare 24 = .ok (.aload_n 0, 1) := by decide +kernel
theorem dX8_isSpare_25 : decode cX8_isSpare 25 = .ok (.iload_n 1, 1) := by decide +kernel
theorem dX8_isSpare_26 : decode cX8_isSpare 26 = .ok (.invokevirtual 238, 3) := by decide +kernel
theorem dX8_isSpare_29 : decode cX8_isSpare 29 = .ok (.astore_n 3, 1) := by decide +kernel
theorem dX8_isSpare_30 : decode cX8_isSpare 30 = .ok (.aload_n 3, 1) := by decide +kernel
theorem dX8_isSpare_31 : decode cX8_isSpare 31 = .ok (.getfield 242, 3) := by decide +kernel
theorem dX8_isSpare_34 : decode cX8_isSpare 34 = .ok (.ifCond .ne 14, 3) := by decide +kernel
theorem dX8_isSpare_37 : decode cX8_isSpare 37 = .ok (.aload_n 3, 1) := by decide +kernel
theorem dX8_isSpare_38 : decode cX8_isSpare 38 = .ok (.getfield 245, 3) := by decide +kernel
theorem dX8_isSpare_41 : decode cX8_isSpare 41 = .ok (.ifCond .ne 7, 3) := by decide +kernel
theorem dX8_isSpare_44 : decode cX8_isSpare 44 = .ok (.iconst 1, 1) := by decide +kernel
theorem dX8_isSpare_45 : decode cX8_isSpare 45 = .ok (.goto 4, 3) := by decide +kernel
theorem dX8_isSpare_48 : decode cX8_isSpare 48 = .ok (.iconst 0, 1) := by decide +kernel
theorem dX8_isSpare_49 : decode cX8_isSpare 49 = .ok (.ireturn, 1) := by decide +kernel
theorem dX8_bestPair_0 : decode cX8_bestPair 0 = .ok (.aload_n 0, 1) := by decide +kernel
theorem dX8_bestPair_1 : decode cX8_bestPair 1 = .ok (.getfield 28, 3) := by decide +kernel
theorem dX8_bestPair_4 : decode cX8_bestPair 4 = .ok (.iconst 0, 1) := by decide +kernel
theorem dX8_bestPair_5 : decode cX8_bestPair 5 = .ok (.invokestatic 137, 3) := by decide +kernel
theorem dX8_bestPair_8 : decode cX8_bestPair 8 = .ok (.iconst 0, 1) := by decide +kernel
theorem dX8_bestPair_9 : decode cX8_bestPair 9 = .ok (.istore_n 1, 1) := by decide +kernel
theorem dX8_bestPair_10 : decode cX8_bestPair 10 = .ok (.iload_n 1, 1) := by decide +kernel
theorem dX8_bestPair_11 : decode cX8_bestPair 11 = .ok (.bipush 16, 2) := by decide +kernel
theorem dX8_bestPair_13 : decode cX8_bestPair 13 = .ok (.if_icmp .ge 22, 3) := by decide +kernel
theorem dX8_bestPair_16 : decode cX8_bestPair 16 = .ok (.aload_n 0, 1) := by decide +kernel
theorem dX8_bestPair_17 : decode cX8_bestPair 17 = .ok (.iload_n 1, 1) := by decide +kernel
theorem dX8_bestPair_18 : decode cX8_bestPair 18 = .ok (.invokevirtual 90, 3) := by decide +kernel
theorem dX8_bestPair_21 : decode cX8_bestPair 21 = .ok (.ifCond .eq 8, 3) := by decide +kernel
theorem dX8_bestPair_24 : decode cX8_bestPair 24 = .ok (.aload_n 0, 1) := by decide +kernel
theorem dX8_bestPair_25 : decode cX8_bestPair 25 = .ok (.iload_n 1, 1) := by decide +kernel
theorem dX8_bestPair_26 : decode cX8_bestPair 26 = .ok (.invokevirtual 248, 3) := by decide +kernel
theorem dX8_bestPair_29 : decode cX8_bestPair 29 = .ok (.iinc 1 1, 3) := by decide +kernel
theorem dX8_bestPair_32 : decode cX8_bestPair 32 = .ok (.goto (-22), 3) := by decide +kernel
theorem dX8_bestPair_35 : decode cX8_bestPair 35 = .ok (.iconst (-1), 1) := by decide +kernel
theorem dX8_bestPair_36 : decode cX8_bestPair 36 = .ok (.istore_n 1, 1) := by decide +kernel
theorem dX8_bestPair_37 : decode cX8_bestPair 37 = .ok (.iconst 0, 1) := by decide +kernel
theorem dX8_bestPair_38 : decode cX8_bestPair 38 = .ok (.istore_n 2, 1) := by decide +kernel
theorem dX8_bestPair_39 : decode cX8_bestPair 39 = .ok (.iconst 0, 1) := by decide +kernel
theorem dX8_bestPair_40 : decode cX8_bestPair 40 = .ok (.istore_n 3, 1) := by decide +kernel
theorem dX8_bestPair_41 : decode cX8_bestPair 41 = .ok (.iload_n 3, 1) := by decide +kernel
theorem dX8_bestPair_42 : decode cX8_bestPair 42 = .ok (.aload_n 0, 1) := by decide +kernel
theorem dX8_bestPair_43 : decode cX8_bestPair 43 = .ok (.getfield 28, 3) := by decide +kernel
theorem dX8_bestPair_46 : decode cX8_bestPair 46 = .ok (.arraylength, 1) := by decide +kernel
theorem dX8_bestPair_47 : decode cX8_bestPair 47 = .ok (.if_icmp .ge 32, 3) := by decide +kernel
theorem dX8_bestPair_50 : decode cX8_bestPair 50 = .ok (.aload_n 0, 1) := by decide +kernel
theorem dX8_bestPair_51 : decode cX8_bestPair 51 = .ok (.getfield 28, 3) := by decide +kernel
theorem dX8_bestPair_54 : decode cX8_bestPair 54 = .ok (.iload_n 3, 1) := by decide +kernel
theorem dX8_bestPair_55 : decode cX8_bestPair 55 = .ok (.invokestatic 94, 3) := by decide +kernel
theorem dX8_bestPair_58 : decode cX8_bestPair 58 = .ok (.iload_n 2, 1) := by decide +kernel
theorem dX8_bestPair_59 : decode cX8_bestPair 59 = .ok (.if_icmp .le 14, 3) := by decide +kernel
theorem dX8_bestPair_62 : decode cX8_bestPair 62 = .ok (.aload_n 0, 1) := by decide +kernel
theorem dX8_bestPair_63 : decode cX8_bestPair 63 = .ok (.getfield 28, 3) := by decide +kernel
theorem dX8_bestPair_66 : decode cX8_bestPair 66 = .ok (.iload_n 3, 1) := by decide +kernel
theorem dX8_bestPair_67 : decode cX8_bestPair 67 = .ok (.invokestatic 94, 3) := by decide +kernel
theorem dX8_bestPair_70 : decode cX8_bestPair 70 = .ok (.istore_n 2, 1) := by decide +kernel
theorem dX8_bestPair_71 : decode cX8_bestPair 71 = .ok (.iload_n 3, 1) := by decide +kernel
theorem dX8_bestPair_72 : decode cX8_bestPair 72 = .ok (.istore_n 1, 1) := by decide +kernel
theorem dX8_bestPair_73 : decode cX8_bestPair 73 = .ok (.iinc 3 1, 3) := by decide +kernel
theorem dX8_bestPair_76 : decode cX8_bestPair 76 = .ok (.goto (-35), 3) := by decide +kernel
theorem dX8_bestPair_79 : decode cX8_bestPair 79 = .ok (.iload_n 1, 1) := by decide +kernel
theorem dX8_bestPair_80 : decode cX8_bestPair 80 = .ok (.ireturn, 1) := by decide +kernel
theorem dX8_addLifts_0 : decode cX8_addLifts 0 = .ok (.aload_n 0, 1) := by decide +kernel
theorem dX8_addLifts_1 : decode cX8_addLifts 1 = .ok (.getfield 52, 3) := by decide +kernel
theorem dX8_addLifts_4 : decode cX8_addLifts 4 = .ok (.getfield 112, 3) := by decide +kernel
theorem dX8_addLifts_7 : decode cX8_addLifts 7 = .ok (.iload_n 1, 1) := by decide +kernel
theorem dX8_addLifts_8 : decode cX8_addLifts 8 = .ok (.invokestatic 94, 3) := by decide +kernel
theorem dX8_addLifts_11 : decode cX8_addLifts 11 = .ok (.istore_n 2, 1) := by decide +kernel
theorem dX8_addLifts_12 : decode cX8_addLifts 12 = .ok (.aload_n 0, 1) := by decide +kernel
theorem dX8_addLifts_13 : decode cX8_addLifts 13 = .ok (.getfield 52, 3) := by decide +kernel
theorem dX8_addLifts_16 : decode cX8_addLifts 16 = .ok (.getfield 106, 3) := by decide +kernel
theorem dX8_addLifts_19 : decode cX8_addLifts 19 = .ok (.iload_n 2, 1) := by decide +kernel
theorem dX8_addLifts_20 : decode cX8_addLifts 20 = .ok (.iconst (-1), 1) := by decide +kernel
theorem dX8_addLifts_21 : decode cX8_addLifts 21 = .ok (.ixor, 1) := by decide +kernel
theorem dX8_addLifts_22 : decode cX8_addLifts 22 = .ok (.iand, 1) := by decide +kernel
theorem dX8_addLifts_23 : decode cX8_addLifts 23 = .ok (.iload_n 1, 1) := by decide +kernel
theorem dX8_addLifts_24 : decode cX8_addLifts 24 = .ok (.invokestatic 75, 3) := by decide +kernel
theorem dX8_addLifts_27 : decode cX8_addLifts 27 = .ok (.iconst (-1), 1) := by decide +kernel
theorem dX8_addLifts_28 : decode cX8_addLifts 28 = .ok (.ixor, 1) := by decide +kernel
theorem dX8_addLifts_29 : decode cX8_addLifts 29 = .ok (.iand, 1) := by decide +kernel
theorem dX8_addLifts_30 : decode cX8_addLifts 30 = .ok (.istore_n 3, 1) := by decide +kernel
theorem dX8_addLifts_31 : decode cX8_addLifts 31 = .ok (.iconst 0, 1) := by decide +kernel
theorem dX8_addLifts_32 : decode cX8_addLifts 32 = .ok (.istore 4, 2) := by decide +kernel
theorem dX8_addLifts_34 : decode cX8_addLifts 34 = .ok (.iload 4, 2) := by decide +kernel
theorem dX8_addLifts_36 : decode cX8_addLifts 36 = .ok (.aload_n 0, 1) := by decide +kernel
theorem dX8_addLifts_37 : decode cX8_addLifts 37 = .ok (.getfield 58, 3) := by decide +kernel
theorem dX8_addLifts_40 : decode cX8_addLifts 40 = .ok (.getfield 170, 3) := by decide +kernel
theorem dX8_addLifts_43 : decode cX8_addLifts 43 = .ok (.if_icmp .ge 134, 3) := by decide +kernel
theorem dX8_addLifts_46 : decode cX8_addLifts 46 = .ok (.iload 4, 2) := by decide +kernel
theorem dX8_addLifts_48 : decode cX8_addLifts 48 = .ok (.bipush 16, 2) := by decide +kernel
theorem dX8_addLifts_50 : decode cX8_addLifts 50 = .ok (.if_icmp .ge 127, 3) := by decide +kernel
theorem dX8_addLifts_53 : decode cX8_addLifts 53 = .ok (.iload 4, 2) := by decide +kernel
theorem dX8_addLifts_55 : decode cX8_addLifts 55 = .ok (.iload_n 1, 1) := by decide +kernel
theorem dX8_addLifts_56 : decode cX8_addLifts 56 = .ok (.if_icmp .eq 16, 3) := by decide +kernel
theorem dX8_addLifts_59 : decode cX8_addLifts 59 = .ok (.iload_n 3, 1) := by decide +kernel
theorem dX8_addLifts_60 : decode cX8_addLifts 60 = .ok (.iload 4, 2) := by decide +kernel
theorem dX8_addLifts_62 : decode cX8_addLifts 62 = .ok (.invokestatic 98, 3) := by decide +kernel
theorem dX8_addLifts_65 : decode cX8_addLifts 65 = .ok (.ifCond .ne 7, 3) := by decide +kernel
theorem dX8_addLifts_68 : decode cX8_addLifts 68 = .ok (.iconst 1, 1) := by decide +kernel
theorem dX8_addLifts_69 : decode cX8_addLifts 69 = .ok (.goto 4, 3) := by decide +kernel
theorem dX8_addLifts_72 : decode cX8_addLifts 72 = .ok (.iconst 0, 1) := by decide +kernel
theorem dX8_addLifts_73 : decode cX8_addLifts 73 = .ok (.istore 5, 2) := by decide +kernel
theorem dX8_addLifts_75 : decode cX8_addLifts 75 = .ok (.iload 5, 2) := by decide +kernel
theorem dX8_addLifts_77 : decode cX8_addLifts 77 = .ok (.ifCond .eq 30, 3) := by decide +kernel
theorem dX8_addLifts_80 : decode cX8_addLifts 80 = .ok (.aload_n 0, 1) := by decide +kernel
theorem dX8_addLifts_81 : decode cX8_addLifts 81 = .ok (.getfield 52, 3) := by decide +kernel
theorem dX8_addLifts_84 : decode cX8_addLifts 84 = .ok (.getfield 62, 3) := by decide +kernel
theorem dX8_addLifts_87 : decode cX8_addLifts 87 = .ok (.iload 4, 2) := by decide +kernel
theorem dX8_addLifts_89 : decode cX8_addLifts 89 = .ok (.invokestatic 75, 3) := by decide +kernel
theorem dX8_addLifts_92 : decode cX8_addLifts 92 = .ok (.iload_n 1, 1) := by decide +kernel
theorem dX8_addLifts_93 : decode cX8_addLifts 93 = .ok (.invokestatic 75, 3) := by decide +kernel
theorem dX8_addLifts_96 : decode cX8_addLifts 96 = .ok (.invokestatic 127, 3) := by decide +kernel
theorem dX8_addLifts_99 : decode cX8_addLifts 99 = .ok (.iload_n 2, 1) := by decide +kernel
theorem dX8_addLifts_100 : decode cX8_addLifts 100 = .ok (.iand, 1) := by decide +kernel
theorem dX8_addLifts_101 : decode cX8_addLifts 101 = .ok (.invokestatic 183, 3) := by decide +kernel
theorem dX8_addLifts_104 : decode cX8_addLifts 104 = .ok (.goto 4, 3) := by decide +kernel
theorem dX8_addLifts_107 : decode cX8_addLifts 107 = .ok (.iconst 0, 1) := by decide +kernel
theorem dX8_addLifts_108 : decode cX8_addLifts 108 = .ok (.istore 6, 2) := by decide +kernel
theorem dX8_addLifts_110 : decode cX8_addLifts 110 = .ok (.iconst 0, 1) := by decide +kernel
theorem dX8_addLifts_111 : decode cX8_addLifts 111 = .ok (.istore 7, 2) := by decide +kernel
theorem dX8_addLifts_113 : decode cX8_addLifts 113 = .ok (.iload 7, 2) := by decide +kernel
theorem dX8_addLifts_115 : decode cX8_addLifts 115 = .ok (.bipush 16, 2) := by decide +kernel
theorem dX8_addLifts_117 : decode cX8_addLifts 117 = .ok (.if_icmp .ge 54, 3) := by decide +kernel
theorem dX8_addLifts_120 : decode cX8_addLifts 120 = .ok (.iload 6, 2) := by decide +kernel
theorem dX8_addLifts_122 : decode cX8_addLifts 122 = .ok (.ifCond .eq 49, 3) := by decide +kernel
theorem dX8_addLifts_125 : decode cX8_addLifts 125 = .ok (.iload_n 3, 1) := by decide +kernel
theorem dX8_addLifts_126 : decode cX8_addLifts 126 = .ok (.iload 7, 2) := by decide +kernel
theorem dX8_addLifts_128 : decode cX8_addLifts 128 = .ok (.invokestatic 98, 3) := by decide +kernel
theorem dX8_addLifts_131 : decode cX8_addLifts 131 = .ok (.ifCond .eq 34, 3) := by decide +kernel
theorem dX8_addLifts_134 : decode cX8_addLifts 134 = .ok (.iload 7, 2) := by decide +kernel
theorem dX8_addLifts_136 : decode cX8_addLifts 136 = .ok (.bipush 16, 2) := by decide +kernel
theorem dX8_addLifts_138 : decode cX8_addLifts 138 = .ok (.imul, 1) := by decide +kernel
theorem dX8_addLifts_139 : decode cX8_addLifts 139 = .ok (.iload 4, 2) := by decide +kernel
theorem dX8_addLifts_141 : decode cX8_addLifts 141 = .ok (.iadd, 1) := by decide +kernel
theorem dX8_addLifts_142 : decode cX8_addLifts 142 = .ok (.istore 8, 2) := by decide +kernel
theorem dX8_addLifts_144 : decode cX8_addLifts 144 = .ok (.aload_n 0, 1) := by decide +kernel
theorem dX8_addLifts_145 : decode cX8_addLifts 145 = .ok (.getfield 28, 3) := by decide +kernel
theorem dX8_addLifts_148 : decode cX8_addLifts 148 = .ok (.iload 8, 2) := by decide +kernel
theorem dX8_addLifts_150 : decode cX8_addLifts 150 = .ok (.aload_n 0, 1) := by decide +kernel
theorem dX8_addLifts_151 : decode cX8_addLifts 151 = .ok (.getfield 28, 3) := by decide +kernel
theorem dX8_addLifts_154 : decode cX8_addLifts 154 = .ok (.iload 8, 2) := by decide +kernel
theorem dX8_addLifts_156 : decode cX8_addLifts 156 = .ok (.invokestatic 94, 3) := by decide +kernel
theorem dX8_addLifts_159 : decode cX8_addLifts 159 = .ok (.iload 6, 2) := by decide +kernel
theorem dX8_addLifts_161 : decode cX8_addLifts 161 = .ok (.iadd, 1) := by decide +kernel
theorem dX8_addLifts_162 : decode cX8_addLifts 162 = .ok (.invokestatic 102, 3) := by decide +kernel
theorem dX8_addLifts_165 : decode cX8_addLifts 165 = .ok (.iinc 7 1, 3) := by decide +kernel
theorem dX8_addLifts_168 : decode cX8_addLifts 168 = .ok (.goto (-55), 3) := by decide +kernel
theorem dX8_addLifts_171 : decode cX8_addLifts 171 = .ok (.iinc 4 1, 3) := by decide +kernel
theorem dX8_addLifts_174 : decode cX8_addLifts 174 = .ok (.goto (-140), 3) := by decide +kernel
theorem dX8_addLifts_177 : decode cX8_addLifts 177 = .ok (.return_, 1) := by decide +kernel
theorem dX9_init_0 : decode cX9_init 0 = .ok (.aload_n 0, 1) := by decide +kernel
theorem dX9_init_1 : decode cX9_init 1 = .ok (.invokespecial 1, 3) := by decide +kernel
theorem dX9_init_4 : decode cX9_init 4 = .ok (.aload_n 0, 1) := by decide +kernel
theorem dX9_init_5 : decode cX9_init 5 = .ok (.new 7, 3) := by decide +kernel
theorem dX9_init_8 : decode cX9_init 8 = .ok (.dup, 1) := by decide +kernel
theorem dX9_init_9 : decode cX9_init 9 = .ok (.sipush 400, 3) := by decide +kernel
theorem dX9_init_12 : decode cX9_init 12 = .ok (.invokespecial 11, 3) := by decide +kernel
theorem dX9_init_15 : decode cX9_init 15 = .ok (.putfield 14, 3) := by decide +kernel
theorem dX9_init_18 : decode cX9_init 18 = .ok (.aload_n 0, 1) := by decide +kernel
theorem dX9_init_19 : decode cX9_init 19 = .ok (.new 7, 3) := by decide +kernel
theorem dX9_init_22 : decode cX9_init 22 = .ok (.dup, 1) := by decide +kernel
theorem dX9_init_23 : decode cX9_init 23 = .ok (.bipush 64, 2) := by decide +kernel
theorem dX9_init_25 : decode cX9_init 25 = .ok (.invokespecial 11, 3) := by decide +kernel
theorem dX9_init_28 : decode cX9_init 28 = .ok (.putfield 18, 3) := by decide +kernel
theorem dX9_init_31 : decode cX9_init 31 = .ok (.aload_n 0, 1) := by decide +kernel
theorem dX9_init_32 : decode cX9_init 32 = .ok (.new 21, 3) := by decide +kernel
theorem dX9_init_35 : decode cX9_init 35 = .ok (.dup, 1) := by decide +kernel
theorem dX9_init_36 : decode cX9_init 36 = .ok (.aload_n 0, 1) := by decide +kernel
theorem dX9_init_37 : decode cX9_init 37 = .ok (.getfield 14, 3) := by decide +kernel
theorem dX9_init_40 : decode cX9_init 40 = .ok (.invokespecial 23, 3) := by decide +kernel
theorem dX9_init_43 : decode cX9_init 43 = .ok (.putfield 26, 3) := by decide +kernel
theorem dX9_init_46 : decode cX9_init 46 = .ok (.aload_n 0, 1) := by decide +kernel
theorem dX9_init_47 : decode cX9_init 47 = .ok (.new 30, 3) := by decide +kernel
theorem dX9_init_50 : decode cX9_init 50 = .ok (.dup, 1) := by decide +kernel
theorem dX9_init_51 : decode cX9_init 51 = .ok (.invokespecial 32, 3) := by decide +kernel
theorem dX9_init_54 : decode cX9_init 54 = .ok (.putfield 33, 3) := by decide +kernel
theorem dX9_init_57 : decode cX9_init 57 = .ok (.aload_n 0, 1) := by decide +kernel
theorem dX9_init_58 : decode cX9_init 58 = .ok (.new 30, 3) := by decide +kernel
theorem dX9_init_61 : decode cX9_init 61 = .ok (.dup, 1) := by decide +kernel
theorem dX9_init_62 : decode cX9_init 62 = .ok (.invokespecial 32, 3) := by decide +kernel
theorem dX9_init_65 : decode cX9_init 65 = .ok (.putfield 37, 3) := by decide +kernel
theorem dX9_init_68 : decode cX9_init 68 = .ok (.aload_n 0, 1) := by decide +kernel
theorem dX9_init_69 : decode cX9_init 69 = .ok (.new 30, 3) := by decide +kernel
theorem dX9_init_72 : decode cX9_init 72 = .ok (.dup, 1) := by decide +kernel
theorem dX9_init_73 : decode cX9_init 73 = .ok (.invokespecial 32, 3) := by decide +kernel
theorem dX9_init_76 : decode cX9_init 76 = .ok (.putfield 40, 3) := by decide +kernel
theorem dX9_init_79 : decode cX9_init 79 = .ok (.aload_n 0, 1) := by decide +kernel
theorem dX9_init_80 : decode cX9_init 80 = .ok (.new 43, 3) := by decide +kernel
theorem dX9_init_83 : decode cX9_init 83 = .ok (.dup, 1) := by decide +kernel
theorem dX9_init_84 : decode cX9_init 84 = .ok (.invokespecial 45, 3) := by decide +kernel
theorem dX9_init_87 : decode cX9_init 87 = .ok (.putfield 46, 3) := by decide +kernel
theorem dX9_init_90 : decode cX9_init 90 = .ok (.aload_n 0, 1) := by decide +kernel
theorem dX9_init_91 : decode cX9_init 91 = .ok (.new 50, 3) := by decide +kernel
theorem dX9_init_94 : decode cX9_init 94 = .ok (.dup, 1) := by decide +kernel
theorem dX9_init_95 : decode cX9_init 95 = .ok (.invokespecial 52, 3) := by decide +kernel
theorem dX9_init_98 : decode cX9_init 98 = .ok (.putfield 53, 3) := by decide +kernel
theorem dX9_init_101 : decode cX9_init 101 = .ok (.aload_n 0, 1) := by decide +kernel
theorem dX9_init_102 : decode cX9_init 102 = .ok (.new 57, 3) := by decide +kernel
theorem dX9_init_105 : decode cX9_init 105 = .ok (.dup, 1) := by decide +kernel
theorem dX9_init_106 : decode cX9_init 106 = .ok (.aload_n 0, 1) := by decide +kernel
theorem dX9_init_107 : decode cX9_init 107 = .ok (.getfield 33, 3) := by decide +kernel
theorem dX9_init_110 : decode cX9_init 110 = .ok (.invokespecial 59, 3) := by decide +kernel
theorem dX9_init_113 : decode cX9_init 113 = .ok (.putfield 62, 3) := by decide +kernel
theorem dX9_init_116 : decode cX9_init 116 = .ok (.aload_n 0, 1) := by decide +kernel
theorem dX9_init_117 : decode cX9_init 117 = .ok (.getfield 62, 3) := by decide +kernel
theorem dX9_init_120 : decode cX9_init 120 = .ok (.aload_n 0, 1) := by decide +kernel
theorem dX9_init_121 : decode cX9_init 121 = .ok (.getfield 53, 3) := by decide +kernel
theorem dX9_init_124 : decode cX9_init 124 = .ok (.invokevirtual 66, 3) := by decide +kernel
theorem dX9_init_127 : decode cX9_init 127 = .ok (.aload_n 0, 1) := by decide +kernel
theorem dX9_init_128 : decode cX9_init 128 = .ok (.getfield 53, 3) := by decide +kernel
theorem dX9_init_131 : decode cX9_init 131 = .ok (.invokevirtual 70, 3) := by decide +kernel
theorem dX9_init_134 : decode cX9_init 134 = .ok (.aload_n 0, 1) := by decide +kernel
theorem dX9_init_135 : decode cX9_init 135 = .ok (.iconst (-1), 1) := by decide +kernel
theorem dX9_init_136 : decode cX9_init 136 = .ok (.putfield 73, 3) := by decide +kernel
theorem dX9_init_139 : decode cX9_init 139 = .ok (.aload_n 0, 1) := by decide +kernel
theorem dX9_init_140 : decode cX9_init 140 = .ok (.iconst 0, 1) := by decide +kernel
theorem dX9_init_141 : decode cX9_init 141 = .ok (.putfield 77, 3) := by decide +kernel
theorem dX9_init_144 : decode cX9_init 144 = .ok (.return_, 1) := by decide +kernel
theorem dX9_feed_0 : decode cX9_feed 0 = .ok (.aload_n 0, 1) := by decide +kernel
theorem dX9_feed_1 : decode cX9_feed 1 = .ok (.getfield 14, 3) := by decide +kernel
theorem dX9_feed_4 : decode cX9_feed 4 = .ok (.getfield 80, 3) := by decide +kernel
theorem dX9_feed_7 : decode cX9_feed 7 = .ok (.sipush 380, 3) := by decide +kernel
theorem dX9_feed_10 : decode cX9_feed 10 = .ok (.if_icmp .le 5, 3) := by decide +kernel
theorem dX9_feed_13 : decode cX9_feed 13 = .ok (.iconst (-1), 1) := by decide +kernel
theorem dX9_feed_14 : decode cX9_feed 14 = .ok (.ireturn, 1) := by decide +kernel
theorem dX9_feed_15 : decode cX9_feed 15 = .ok (.aload_n 0, 1) := by decide +kernel
theorem dX9_feed_16 : decode cX9_feed 16 = .ok (.getfield 14, 3) := by decide +kernel
theorem dX9_feed_19 : decode cX9_feed 19 = .ok (.iload_n 1, 1) := by decide +kernel
theorem dX9_feed_20 : decode cX9_feed 20 = .ok (.invokevirtual 83, 3) := by decide +kernel
theorem dX9_feed_23 : decode cX9_feed 23 = .ok (.aload_n 0, 1) := by decide +kernel
theorem dX9_feed_24 : decode cX9_feed 24 = .ok (.getfield 14, 3) := by decide +kernel
theorem dX9_feed_27 : decode cX9_feed 27 = .ok (.iload_n 2, 1) := by decide +kernel
theorem dX9_feed_28 : decode cX9_feed 28 = .ok (.invokevirtual 83, 3) := by decide +kernel
theorem dX9_feed_31 : decode cX9_feed 31 = .ok (.aload_n 0, 1) := by decide +kernel
theorem dX9_feed_32 : decode cX9_feed 32 = .ok (.getfield 14, 3) := by decide +kernel
theorem dX9_feed_35 : decode cX9_feed 35 = .ok (.iload_n 3, 1) := by decide +kernel
theorem dX9_feed_36 : decode cX9_feed 36 = .ok (.invokevirtual 83, 3) := by decide +kernel
theorem dX9_feed_39 : decode cX9_feed 39 = .ok (.aload_n 0, 1) := by decide +kernel
theorem dX9_feed_40 : decode cX9_feed 40 = .ok (.getfield 14, 3) := by decide +kernel
theorem dX9_feed_43 : decode cX9_feed 43 = .ok (.iload 4, 2) := by decide +kernel
theorem dX9_feed_45 : decode cX9_feed 45 = .ok (.invokevirtual 83, 3) := by decide +kernel
theorem dX9_feed_48 : decode cX9_feed 48 = .ok (.aload_n 0, 1) := by decide +kernel
theorem dX9_feed_49 : decode cX9_feed 49 = .ok (.getfield 14, 3) := by decide +kernel
theorem dX9_feed_52 : decode cX9_feed 52 = .ok (.iload 5, 2) := by decide +kernel
theorem dX9_feed_54 : decode cX9_feed 54 = .ok (.invokevirtual 83, 3) := by decide +kernel
theorem dX9_feed_57 : decode cX9_feed 57 = .ok (.aload_n 0, 1) := by decide +kernel
theorem dX9_feed_58 : decode cX9_feed 58 = .ok (.getfield 14, 3) := by decide +kernel
theorem dX9_feed_61 : decode cX9_feed 61 = .ok (.getfield 80, 3) := by decide +kernel
theorem dX9_feed_64 : decode cX9_feed 64 = .ok (.ireturn, 1) := by decide +kernel
theorem dX9_end_0 : decode cX9_end 0 = .ok (.iload_n 1, 1) := by decide +kernel
theorem dX9_end_1 : decode cX9_end 1 = .ok (.ifCond .lt 14, 3) := by decide +kernel
theorem dX9_end_4 : decode cX9_end 4 = .ok (.iload_n 1, 1) := by decide +kernel
theorem dX9_end_5 : decode cX9_end 5 = .ok (.aload_n 0, 1) := by decide +kernel
theorem dX9_end_6 : decode cX9_end 6 = .ok (.getfield 14, 3) := by decide +kernel
theorem dX9_end_9 : decode cX9_end 9 = .ok (.getfield 80, 3) := by decide +kernel
theorem dX9_end_12 : decode cX9_end 12 = .ok (.if_icmp .le 5, 3) := by decide +kernel
theorem dX9_end_15 : decode cX9_end 15 = .ok (.iconst 0, 1) := by decide +kernel
theorem dX9_end_16 : decode cX9_end 16 = .ok (.ireturn, 1) := by decide +kernel
theorem dX9_end_17 : decode cX9_end 17 = .ok (.aload_n 0, 1) := by decide +kernel
theorem dX9_end_18 : decode cX9_end 18 = .ok (.getfield 14, 3) := by decide +kernel
theorem dX9_end_21 : decode cX9_end 21 = .ok (.iload_n 1, 1) := by decide +kernel
theorem dX9_end_22 : decode cX9_end 22 = .ok (.putfield 80, 3) := by decide +kernel
theorem dX9_end_25 : decode cX9_end 25 = .ok (.iconst 1, 1) := by decide +kernel
theorem dX9_end_26 : decode cX9_end 26 = .ok (.ireturn, 1) := by decide +kernel
theorem dX9_acts_0 : decode cX9_acts 0 = .ok (.aload_n 0, 1) := by decide +kernel
theorem dX9_acts_1 : decode cX9_acts 1 = .ok (.getfield 37, 3) := by decide +kernel
theorem dX9_acts_4 : decode cX9_acts 4 = .ok (.aload_n 0, 1) := by decide +kernel
theorem dX9_acts_5 : decode cX9_acts 5 = .ok (.getfield 33, 3) := by decide +kernel
theorem dX9_acts_8 : decode cX9_acts 8 = .ok (.invokevirtual 86, 3) := by decide +kernel
theorem dX9_acts_11 : decode cX9_acts 11 = .ok (.aload_n 0, 1) := by decide +kernel
theorem dX9_acts_12 : decode cX9_acts 12 = .ok (.invokevirtual 89, 3) := by decide +kernel
theorem dX9_acts_15 : decode cX9_acts 15 = .ok (.istore_n 1, 1) := by decide +kernel
theorem dX9_acts_16 : decode cX9_acts 16 = .ok (.aload_n 0, 1) := by decide +kernel
theorem dX9_acts_17 : decode cX9_acts 17 = .ok (.getfield 14, 3) := by decide +kernel
theorem dX9_acts_20 : decode cX9_acts 20 = .ok (.iconst 0, 1) := by decide +kernel
theorem dX9_acts_21 : decode cX9_acts 21 = .ok (.putfield 80, 3) := by decide +kernel
theorem dX9_acts_24 : decode cX9_acts 24 = .ok (.iload_n 1, 1) := by decide +kernel
theorem dX9_acts_25 : decode cX9_acts 25 = .ok (.iconst (-1), 1) := by decide +kernel
theorem dX9_acts_26 : decode cX9_acts 26 = .ok (.if_icmp .ne 24, 3) := by decide +kernel
theorem dX9_acts_29 : decode cX9_acts 29 = .ok (.aload_n 0, 1) := by decide +kernel
theorem dX9_acts_30 : decode cX9_acts 30 = .ok (.getfield 33, 3) := by decide +kernel
theorem dX9_acts_33 : decode cX9_acts 33 = .ok (.aload_n 0, 1) := by decide +kernel
theorem dX9_acts_34 : decode cX9_acts 34 = .ok (.getfield 37, 3) := by decide +kernel
theorem dX9_acts_37 : decode cX9_acts 37 = .ok (.invokevirtual 86, 3) := by decide +kernel
theorem dX9_acts_40 : decode cX9_acts 40 = .ok (.new 93, 3) := by decide +kernel
theorem dX9_acts_43 : decode cX9_acts 43 = .ok (.dup, 1) := by decide +kernel
theorem dX9_acts_44 : decode cX9_acts 44 = .ok (.ldc 95, 2) := by decide +kernel
theorem dX9_acts_46 : decode cX9_acts 46 = .ok (.invokespecial 97, 3) := by decide +kernel
theorem dX9_acts_49 : decode cX9_acts 49 = .ok (.athrow, 1) := by decide +kernel
theorem dX9_acts_50 : decode cX9_acts 50 = .ok (.aload_n 0, 1) := by decide +kernel
theorem dX9_acts_51 : decode cX9_acts 51 = .ok (.invokevirtual 100, 3) := by decide +kernel
theorem dX9_acts_54 : decode cX9_acts 54 = .ok (.iload_n 1, 1) := by decide +kernel
theorem dX9_acts_55 : decode cX9_acts 55 = .ok (.ifCond .le 8, 3) := by decide +kernel
theorem dX9_acts_58 : decode cX9_acts 58 = .ok (.aload_n 0, 1) := by decide +kernel
theorem dX9_acts_59 : decode cX9_acts 59 = .ok (.iconst 0, 1) := by decide +kernel
theorem dX9_acts_60 : decode cX9_acts 60 = .ok (.putfield 77, 3) := by decide +kernel
theorem dX9_acts_63 : decode cX9_acts 63 = .ok (.iload_n 1, 1) := by decide +kernel
theorem dX9_acts_64 : decode cX9_acts 64 = .ok (.ireturn, 1) := by decide +kernel
theorem dX9_doText_0 : decode cX9_doText 0 = .ok (.aload_n 0, 1) := by decide +kernel
theorem dX9_doText_1 : decode cX9_doText 1 = .ok (.iconst (-1), 1) := by decide +kernel
theorem dX9_doText_2 : decode cX9_doText 2 = .ok (.putfield 73, 3) := by decide +kernel
theorem dX9_doText_5 : decode cX9_doText 5 = .ok (.aload_n 0, 1) := by decide +kernel
theorem dX9_doText_6 : decode cX9_doText 6 = .ok (.getfield 26, 3) := by decide +kernel
theorem dX9_doText_9 : decode cX9_doText 9 = .ok (.invokevirtual 103, 3) := by decide +kernel
theorem dX9_doText_12 : decode cX9_doText 12 = .ok (.aload_n 0, 1) := by decide +kernel
theorem dX9_doText_13 : decode cX9_doText 13 = .ok (.getfield 26, 3) := by decide +kernel
theorem dX9_doText_16 : decode cX9_doText 16 = .ok (.invokevirtual 106, 3) := by decide +kernel
theorem dX9_doText_19 : decode cX9_doText 19 = .ok (.ifCond .eq 5, 3) := by decide +kernel
theorem dX9_doText_22 : decode cX9_doText 22 = .ok (.iconst 0, 1) := by decide +kernel
theorem dX9_doText_23 : decode cX9_doText 23 = .ok (.ireturn, 1) := by decide +kernel
theorem dX9_doText_24 : decode cX9_doText 24 = .ok (.iconst 0, 1) := by decide +kernel
theorem dX9_doText_25 : decode cX9_doText 25 = .ok (.istore_n 1, 1) := by decide +kernel
theorem dX9_doText_26 : decode cX9_doText 26 = .ok (.iload_n 1, 1) := by decide +kernel
theorem dX9_doText_27 : decode cX9_doText 27 = .ok (.bipush 14, 2) := by decide +kernel
theorem dX9_doText_29 : decode cX9_doText 29 = .ok (.if_icmp .ge 102, 3) := by decide +kernel
theorem dX9_doText_32 : decode cX9_doText 32 = .ok (.aload_n 0, 1) := by decide +kernel
theorem dX9_doText_33 : decode cX9_doText 33 = .ok (.getfield 26, 3) := by decide +kernel
theorem dX9_doText_36 : decode cX9_doText 36 = .ok (.invokevirtual 110, 3) := by decide +kernel
theorem dX9_doText_39 : decode cX9_doText 39 = .ok (.istore_n 2, 1) := by decide +kernel
theorem dX9_doText_40 : decode cX9_doText 40 = .ok (.iload_n 2, 1) := by decide +kernel
theorem dX9_doText_41 : decode cX9_doText 41 = .ok (.iconst (-1), 1) := by decide +kernel
theorem dX9_doText_42 : decode cX9_doText 42 = .ok (.if_icmp .ne 16, 3) := by decide +kernel
theorem dX9_doText_45 : decode cX9_doText 45 = .ok (.aload_n 0, 1) := by decide +kernel
theorem dX9_doText_46 : decode cX9_doText 46 = .ok (.aload_n 0, 1) := by decide +kernel
theorem dX9_doText_47 : decode cX9_doText 47 = .ok (.getfield 26, 3) := by decide +kernel
theorem dX9_doText_50 : decode cX9_doText 50 = .ok (.getfield 113, 3) := by decide +kernel
theorem dX9_doText_53 : decode cX9_doText 53 = .ok (.putfield 73, 3) := by decide +kernel
theorem dX9_doText_56 : decode cX9_doText 56 = .ok (.iconst (-1), 1) := by decide +kernel
theorem dX9_doText_57 : decode cX9_doText 57 = .ok (.ireturn, 1) := by decide +kernel
theorem dX9_doText_58 : decode cX9_doText 58 = .ok (.aload_n 0, 1) := by decide +kernel
theorem dX9_doText_59 : decode cX9_doText 59 = .ok (.iload_n 2, 1) := by decide +kernel
theorem dX9_doText_60 : decode cX9_doText 60 = .ok (.invokevirtual 116, 3) := by decide +kernel
theorem dX9_doText_63 : decode cX9_doText 63 = .ok (.istore_n 3, 1) := by decide +kernel
theorem dX9_doText_64 : decode cX9_doText 64 = .ok (.iload_n 3, 1) := by decide +kernel
theorem dX9_doText_65 : decode cX9_doText 65 = .ok (.ifCond .eq 21, 3) := by decide +kernel
theorem dX9_doText_68 : decode cX9_doText 68 = .ok (.aload_n 0, 1) := by decide +kernel
theorem dX9_doText_69 : decode cX9_doText 69 = .ok (.iload_n 3, 1) := by decide +kernel
theorem dX9_doText_70 : decode cX9_doText 70 = .ok (.putfield 77, 3) := by decide +kernel
theorem dX9_doText_73 : decode cX9_doText 73 = .ok (.aload_n 0, 1) := by decide +kernel
theorem dX9_doText_74 : decode cX9_doText 74 = .ok (.aload_n 0, 1) := by decide +kernel
theorem dX9_doText_75 : decode cX9_doText 75 = .ok (.getfield 26, 3) := by decide +kernel
theorem dX9_doText_78 : decode cX9_doText 78 = .ok (.getfield 120, 3) := by decide +kernel
theorem dX9_doText_81 : decode cX9_doText 81 = .ok (.putfield 73, 3) := by decide +kernel
theorem dX9_doText_84 : decode cX9_doText 84 = .ok (.iconst (-1), 1) := by decide +kernel
theorem dX9_doText_85 : decode cX9_doText 85 = .ok (.ireturn, 1) := by decide +kernel
theorem dX9_doText_86 : decode cX9_doText 86 = .ok (.aload_n 0, 1) := by decide +kernel
theorem dX9_doText_87 : decode cX9_doText 87 = .ok (.getfield 26, 3) := by decide +kernel
theorem dX9_doText_90 : decode cX9_doText 90 = .ok (.invokevirtual 106, 3) := by decide +kernel
theorem dX9_doText_93 : decode cX9_doText 93 = .ok (.ifCond .eq 7, 3) := by decide +kernel
theorem dX9_doText_96 : decode cX9_doText 96 = .ok (.iload_n 1, 1) := by decide +kernel
theorem dX9_doText_97 : decode cX9_doText 97 = .ok (.iconst 1, 1) := by decide +kernel
theorem dX9_doText_98 : decode cX9_doText 98 = .ok (.iadd, 1) := by decide +kernel
theorem dX9_doText_99 : decode cX9_doText 99 = .ok (.ireturn, 1) := by decide +kernel
theorem dX9_doText_100 : decode cX9_doText 100 = .ok (.aload_n 0, 1) := by decide +kernel
theorem dX9_doText_101 : decode cX9_doText 101 = .ok (.getfield 26, 3) := by decide +kernel
theorem dX9_doText_104 : decode cX9_doText 104 = .ok (.bipush 59, 2) := by decide +kernel
theorem dX9_doText_106 : decode cX9_doText 106 = .ok (.invokevirtual 123, 3) := by decide +kernel
theorem dX9_doText_109 : decode cX9_doText 109 = .ok (.ifCond .ne 16, 3) := by decide +kernel
theorem dX9_doText_112 : decode cX9_doText 112 = .ok (.aload_n 0, 1) := by decide +kernel
theorem dX9_doText_113 : decode cX9_doText 113 = .ok (.aload_n 0, 1) := by decide +kernel
theorem dX9_doText_114 : decode cX9_doText 114 = .ok (.getfield 26, 3) := by decide +kernel
theorem dX9_doText_117 : decode cX9_doText 117 = .ok (.invokevirtual 127, 3) := by decide +kernel
theorem dX9_doText_120 : decode cX9_doText 120 = .ok (.putfield 73, 3) := by decide +kernel
theorem dX9_doText_123 : decode cX9_doText 123 = .ok (.iconst (-1), 1) := by decide +kernel
theorem dX9_doText_124 : decode cX9_doText 124 = .ok (.ireturn, 1) := by decide +kernel
theorem dX9_doText_125 : decode cX9_doText 125 = .ok (.iinc 1 1, 3) := by decide +kernel
theorem dX9_doText_128 : decode cX9_doText 128 = .ok (.goto (-102), 3) := by decide +kernel
theorem dX9_doText_131 : decode cX9_doText 131 = .ok (.aload_n 0, 1) := by decide +kernel
theorem dX9_doText_132 : decode cX9_doText 132 = .ok (.aload_n 0, 1) := by decide +kernel
theorem dX9_doText_133 : decode cX9_doText 133 = .ok (.getfield 26, 3) := by decide +kernel
theorem dX9_doText_136 : decode cX9_doText 136 = .ok (.invokevirtual 127, 3) := by decide +kernel
theorem dX9_doText_139 : decode cX9_doText 139 = .ok (.putfield 73, 3) := by decide +kernel
theorem dX9_doText_142 : decode cX9_doText 142 = .ok (.iconst (-1), 1) := by decide +kernel
theorem dX9_doText_143 : decode cX9_doText 143 = .ok (.ireturn, 1) := by decide +kernel
theorem dX9_doTold_0 : decode cX9_doTold 0 = .ok (.aload_n 0, 1) := by decide +kernel
theorem dX9_doTold_1 : decode cX9_doTold 1 = .ok (.getfield 26, 3) := by decide +kernel
theorem dX9_doTold_4 : decode cX9_doTold 4 = .ok (.iload_n 1, 1) := by decide +kernel
theorem dX9_doTold_5 : decode cX9_doTold 5 = .ok (.invokevirtual 130, 3) := by decide +kernel
theorem dX9_doTold_8 : decode cX9_doTold 8 = .ok (.istore_n 2, 1) := by decide +kernel
theorem dX9_doTold_9 : decode cX9_doTold 9 = .ok (.iconst 0, 1) := by decide +kernel
theorem dX9_doTold_10 : decode cX9_doTold 10 = .ok (.istore_n 3, 1) := by decide +kernel
theorem dX9_doTold_11 : decode cX9_doTold 11 = .ok (.iload_n 3, 1) := by decide +kernel
theorem dX9_doTold_12 : decode cX9_doTold 12 = .ok (.aload_n 0, 1) := by decide +kernel
theorem dX9_doTold_13 : decode cX9_doTold 13 = .ok (.getfield 26, 3) := by decide +kernel
theorem dX9_doTold_16 : decode cX9_doTold 16 = .ok (.getfield 133, 3) := by decide +kernel
theorem dX9_doTold_19 : decode cX9_doTold 19 = .ok (.if_icmp .ge 79, 3) := by decide +kernel
theorem dX9_doTold_22 : decode cX9_doTold 22 = .ok (.iload_n 3, 1) := by decide +kernel
theorem dX9_doTold_23 : decode cX9_doTold 23 = .ok (.sipush 400, 3) := by decide +kernel
theorem dX9_doTold_26 : decode cX9_doTold 26 = .ok (.if_icmp .ge 72, 3) := by decide +kernel
theorem dX9_doTold_29 : decode cX9_doTold 29 = .ok (.aload_n 0, 1) := by decide +kernel
theorem dX9_doTold_30 : decode cX9_doTold 30 = .ok (.getfield 26, 3) := by decide +kernel
theorem dX9_doTold_33 : decode cX9_doTold 33 = .ok (.getfield 136, 3) := by decide +kernel
theorem dX9_doTold_36 : decode cX9_doTold 36 = .ok (.iload_n 3, 1) := by decide +kernel
theorem dX9_doTold_37 : decode cX9_doTold 37 = .ok (.invokestatic 140, 3) := by decide +kernel
theorem dX9_doTold_40 : decode cX9_doTold 40 = .ok (.istore 4, 2) := by decide +kernel
theorem dX9_doTold_42 : decode cX9_doTold 42 = .ok (.aload_n 0, 1) := by decide +kernel
theorem dX9_doTold_43 : decode cX9_doTold 43 = .ok (.getfield 26, 3) := by decide +kernel
theorem dX9_doTold_46 : decode cX9_doTold 46 = .ok (.getfield 136, 3) := by decide +kernel
theorem dX9_doTold_49 : decode cX9_doTold 49 = .ok (.iload_n 3, 1) := by decide +kernel
theorem dX9_doTold_50 : decode cX9_doTold 50 = .ok (.iconst 1, 1) := by decide +kernel
theorem dX9_doTold_51 : decode cX9_doTold 51 = .ok (.iadd, 1) := by decide +kernel
theorem dX9_doTold_52 : decode cX9_doTold 52 = .ok (.invokestatic 140, 3) := by decide +kernel
theorem dX9_doTold_55 : decode cX9_doTold 55 = .ok (.istore 5, 2) := by decide +kernel
theorem dX9_doTold_57 : decode cX9_doTold 57 = .ok (.aload_n 0, 1) := by decide +kernel
theorem dX9_doTold_58 : decode cX9_doTold 58 = .ok (.getfield 33, 3) := by decide +kernel
theorem dX9_doTold_61 : decode cX9_doTold 61 = .ok (.iload_n 1, 1) := by decide +kernel
theorem dX9_doTold_62 : decode cX9_doTold 62 = .ok (.iload 4, 2) := by decide +kernel
theorem dX9_doTold_64 : decode cX9_doTold 64 = .ok (.iload 5, 2) := by decide +kernel
theorem dX9_doTold_66 : decode cX9_doTold 66 = .ok (.invokevirtual 144, 3) := by decide +kernel
theorem dX9_doTold_69 : decode cX9_doTold 69 = .ok (.istore 6, 2) := by decide +kernel
theorem dX9_doTold_71 : decode cX9_doTold 71 = .ok (.iload 6, 2) := by decide +kernel
theorem dX9_doTold_73 : decode cX9_doTold 73 = .ok (.ifCond .eq 6, 3) := by decide +kernel
theorem dX9_doTold_76 : decode cX9_doTold 76 = .ok (.iload 6, 2) := by decide +kernel
theorem dX9_doTold_78 : decode cX9_doTold 78 = .ok (.ireturn, 1) := by decide +kernel
theorem dX9_doTold_79 : decode cX9_doTold 79 = .ok (.aload_n 0, 1) := by decide +kernel
theorem dX9_doTold_80 : decode cX9_doTold 80 = .ok (.getfield 33, 3) := by decide +kernel
theorem dX9_doTold_83 : decode cX9_doTold 83 = .ok (.iload_n 1, 1) := by decide +kernel
theorem dX9_doTold_84 : decode cX9_doTold 84 = .ok (.iload 4, 2) := by decide +kernel
theorem dX9_doTold_86 : decode cX9_doTold 86 = .ok (.iload 5, 2) := by decide +kernel
theorem dX9_doTold_88 : decode cX9_doTold 88 = .ok (.invokevirtual 148, 3) := by decide +kernel
theorem dX9_doTold_91 : decode cX9_doTold 91 = .ok (.iload_n 3, 1) := by decide +kernel
theorem dX9_doTold_92 : decode cX9_doTold 92 = .ok (.iload_n 2, 1) := by decide +kernel
theorem dX9_doTold_93 : decode cX9_doTold 93 = .ok (.iadd, 1) := by decide +kernel
theorem dX9_doTold_94 : decode cX9_doTold 94 = .ok (.istore_n 3, 1) := by decide +kernel
theorem dX9_doTold_95 : decode cX9_doTold 95 = .ok (.goto (-84), 3) := by decide +kernel
theorem dX9_doTold_98 : decode cX9_doTold 98 = .ok (.iconst 0, 1) := by decide +kernel
theorem dX9_doTold_99 : decode cX9_doTold 99 = .ok (.ireturn, 1) := by decide +kernel
theorem dX9_fault_0 : decode cX9_fault 0 = .ok (.aload_n 0, 1) := by decide +kernel
theorem dX9_fault_1 : decode cX9_fault 1 = .ok (.getfield 73, 3) := by decide +kernel
theorem dX9_fault_4 : decode cX9_fault 4 = .ok (.ireturn, 1) := by decide +kernel
theorem dX9_why_0 : decode cX9_why 0 = .ok (.aload_n 0, 1) := by decide +kernel
theorem dX9_why_1 : decode cX9_why 1 = .ok (.getfield 77, 3) := by decide +kernel
theorem dX9_why_4 : decode cX9_why 4 = .ok (.ireturn, 1) := by decide +kernel
theorem dX9_net_0 : decode cX9_net 0 = .ok (.iload_n 1, 1) := by decide +kernel
theorem dX9_net_1 : decode cX9_net 1 = .ok (.iconst 2, 1) := by decide +kernel
theorem dX9_net_2 : decode cX9_net 2 = .ok (.if_icmp .lt 9, 3) := by decide +kernel
theorem dX9_net_5 : decode cX9_net 5 = .ok (.iload_n 1, 1) := by decide +kernel
theorem dX9_net_6 : decode cX9_net 6 = .ok (.bipush 16, 2) := by decide +kernel
theorem dX9_net_8 : decode cX9_net 8 = .ok (.if_icmp .le 13, 3) := by decide +kernel
theorem dX9_net_11 : decode cX9_net 11 = .ok (.new 93, 3) := by decide +kernel
theorem dX9_net_14 : decode cX9_net 14 = .ok (.dup, 1) := by decide +kernel
theorem dX9_net_15 : decode cX9_net 15 = .ok (.ldc 152, 2) := by decide +kernel
theorem dX9_net_17 : decode cX9_net 17 = .ok (.invokespecial 97, 3) := by decide +kernel
theorem dX9_net_20 : decode cX9_net 20 = .ok (.athrow, 1) := by decide +kernel
theorem dX9_net_21 : decode cX9_net 21 = .ok (.aload_n 0, 1) := by decide +kernel
theorem dX9_net_22 : decode cX9_net 22 = .ok (.getfield 33, 3) := by decide +kernel
theorem dX9_net_25 : decode cX9_net 25 = .ok (.iload_n 1, 1) := by decide +kernel
theorem dX9_net_26 : decode cX9_net 26 = .ok (.invokevirtual 154, 3) := by decide +kernel
theorem dX9_net_29 : decode cX9_net 29 = .ok (.aload_n 0, 1) := by decide +kernel
theorem dX9_net_30 : decode cX9_net 30 = .ok (.invokevirtual 100, 3) := by decide +kernel
theorem dX9_net_33 : decode cX9_net 33 = .ok (.aload_n 0, 1) := by decide +kernel
theorem dX9_net_34 : decode cX9_net 34 = .ok (.iconst 0, 1) := by decide +kernel
theorem dX9_net_35 : decode cX9_net 35 = .ok (.putfield 77, 3) := by decide +kernel
theorem dX9_net_38 : decode cX9_net 38 = .ok (.return_, 1) := by decide +kernel
theorem dX9_settle_0 : decode cX9_settle 0 = .ok (.aload_n 0, 1) := by decide +kernel
theorem dX9_settle_1 : decode cX9_settle 1 = .ok (.getfield 46, 3) := by decide +kernel
theorem dX9_settle_4 : decode cX9_settle 4 = .ok (.iconst 0, 1) := by decide +kernel
theorem dX9_settle_5 : decode cX9_settle 5 = .ok (.putfield 157, 3) := by decide +kernel
theorem dX9_settle_8 : decode cX9_settle 8 = .ok (.aload_n 0, 1) := by decide +kernel
theorem dX9_settle_9 : decode cX9_settle 9 = .ok (.getfield 62, 3) := by decide +kernel
theorem dX9_settle_12 : decode cX9_settle 12 = .ok (.aload_n 0, 1) := by decide +kernel
theorem dX9_settle_13 : decode cX9_settle 13 = .ok (.getfield 53, 3) := by decide +kernel
theorem dX9_settle_16 : decode cX9_settle 16 = .ok (.invokevirtual 66, 3) := by decide +kernel
theorem dX9_settle_19 : decode cX9_settle 19 = .ok (.aload_n 0, 1) := by decide +kernel
theorem dX9_settle_20 : decode cX9_settle 20 = .ok (.getfield 53, 3) := by decide +kernel
theorem dX9_settle_23 : decode cX9_settle 23 = .ok (.invokevirtual 70, 3) := by decide +kernel
theorem dX9_settle_26 : decode cX9_settle 26 = .ok (.return_, 1) := by decide +kernel
theorem dX9_tell_0 : decode cX9_tell 0 = .ok (.iload_n 2, 1) := by decide +kernel
theorem dX9_tell_1 : decode cX9_tell 1 = .ok (.ifCond .eq 13, 3) := by decide +kernel
theorem dX9_tell_4 : decode cX9_tell 4 = .ok (.aload_n 0, 1) := by decide +kernel
theorem dX9_tell_5 : decode cX9_tell 5 = .ok (.getfield 33, 3) := by decide +kernel
theorem dX9_tell_8 : decode cX9_tell 8 = .ok (.getfield 160, 3) := by decide +kernel
theorem dX9_tell_11 : decode cX9_tell 11 = .ok (.goto 10, 3) := by decide +kernel
theorem dX9_tell_14 : decode cX9_tell 14 = .ok (.aload_n 0, 1) := by decide +kernel
theorem dX9_tell_15 : decode cX9_tell 15 = .ok (.getfield 33, 3) := by decide +kernel
theorem dX9_tell_18 : decode cX9_tell 18 = .ok (.getfield 163, 3) := by decide +kernel
theorem dX9_tell_21 : decode cX9_tell 21 = .ok (.istore_n 3, 1) := by decide +kernel
theorem dX9_tell_22 : decode cX9_tell 22 = .ok (.aload_n 0, 1) := by decide +kernel
theorem dX9_tell_23 : decode cX9_tell 23 = .ok (.iload_n 2, 1) := by decide +kernel
theorem dX9_tell_24 : decode cX9_tell 24 = .ok (.ifCond .eq 7, 3) := by decide +kernel
theorem dX9_tell_27 : decode cX9_tell 27 = .ok (.iconst 2, 1) := by decide +kernel
theorem dX9_tell_28 : decode cX9_tell 28 = .ok (.goto 4, 3) := by decide +kernel
theorem dX9_tell_31 : decode cX9_tell 31 = .ok (.iconst 1, 1) := by decide +kernel
theorem dX9_tell_32 : decode cX9_tell 32 = .ok (.iload_n 1, 1) := by decide +kernel
theorem dX9_tell_33 : decode cX9_tell 33 = .ok (.iconst 0, 1) := by decide +kernel
theorem dX9_tell_34 : decode cX9_tell 34 = .ok (.invokevirtual 166, 3) := by decide +kernel
theorem dX9_tell_37 : decode cX9_tell 37 = .ok (.ifCond .ne 13, 3) := by decide +kernel
theorem dX9_tell_40 : decode cX9_tell 40 = .ok (.new 170, 3) := by decide +kernel
theorem dX9_tell_43 : decode cX9_tell 43 = .ok (.dup, 1) := by decide +kernel
theorem dX9_tell_44 : decode cX9_tell 44 = .ok (.ldc 172, 2) := by decide +kernel
theorem dX9_tell_46 : decode cX9_tell 46 = .ok (.invokespecial 174, 3) := by decide +kernel
theorem dX9_tell_49 : decode cX9_tell 49 = .ok (.athrow, 1) := by decide +kernel
theorem dX9_tell_50 : decode cX9_tell 50 = .ok (.iload_n 3, 1) := by decide +kernel
theorem dX9_tell_51 : decode cX9_tell 51 = .ok (.ireturn, 1) := by decide +kernel
theorem dX9_lay_0 : decode cX9_lay 0 = .ok (.aload_n 0, 1) := by decide +kernel
theorem dX9_lay_1 : decode cX9_lay 1 = .ok (.iconst 3, 1) := by decide +kernel
theorem dX9_lay_2 : decode cX9_lay 2 = .ok (.iload_n 1, 1) := by decide +kernel
theorem dX9_lay_3 : decode cX9_lay 3 = .ok (.iload_n 2, 1) := by decide +kernel
theorem dX9_lay_4 : decode cX9_lay 4 = .ok (.invokevirtual 166, 3) := by decide +kernel
theorem dX9_lay_7 : decode cX9_lay 7 = .ok (.ifCond .ne 13, 3) := by decide +kernel
theorem dX9_lay_10 : decode cX9_lay 10 = .ok (.new 170, 3) := by decide +kernel
theorem dX9_lay_13 : decode cX9_lay 13 = .ok (.dup, 1) := by decide +kernel
theorem dX9_lay_14 : decode cX9_lay 14 = .ok (.ldc 172, 2) := by decide +kernel
theorem dX9_lay_16 : decode cX9_lay 16 = .ok (.invokespecial 174, 3) := by decide +kernel
theorem dX9_lay_19 : decode cX9_lay 19 = .ok (.athrow, 1) := by decide +kernel
theorem dX9_lay_20 : decode cX9_lay 20 = .ok (.aload_n 0, 1) := by decide +kernel
theorem dX9_lay_21 : decode cX9_lay 21 = .ok (.getfield 33, 3) := by decide +kernel
theorem dX9_lay_24 : decode cX9_lay 24 = .ok (.getfield 175, 3) := by decide +kernel
theorem dX9_lay_27 : decode cX9_lay 27 = .ok (.iconst 1, 1) := by decide +kernel
theorem dX9_lay_28 : decode cX9_lay 28 = .ok (.isub, 1) := by decide +kernel
theorem dX9_lay_29 : decode cX9_lay 29 = .ok (.ireturn, 1) := by decide +kernel
theorem dX9_shut_0 : decode cX9_shut 0 = .ok (.aload_n 0, 1) := by decide +kernel
theorem dX9_shut_1 : decode cX9_shut 1 = .ok (.iconst 4, 1) := by decide +kernel
theorem dX9_shut_2 : decode cX9_shut 2 = .ok (.iload_n 1, 1) := by decide +kernel
theorem dX9_shut_3 : decode cX9_shut 3 = .ok (.iconst 0, 1) := by decide +kernel
theorem dX9_shut_4 : decode cX9_shut 4 = .ok (.invokevirtual 166, 3) := by decide +kernel
theorem dX9_shut_7 : decode cX9_shut 7 = .ok (.ifCond .ne 13, 3) := by decide +kernel
theorem dX9_shut_10 : decode cX9_shut 10 = .ok (.new 170, 3) := by decide +kernel
theorem dX9_shut_13 : decode cX9_shut 13 = .ok (.dup, 1) := by decide +kernel
theorem dX9_shut_14 : decode cX9_shut 14 = .ok (.ldc 172, 2) := by decide +kernel
theorem dX9_shut_16 : decode cX9_shut 16 = .ok (.invokespecial 174, 3) := by decide +kernel
theorem dX9_shut_19 : decode cX9_shut 19 = .ok (.athrow, 1) := by decide +kernel
theorem dX9_shut_20 : decode cX9_shut 20 = .ok (.aload_n 0, 1) := by decide +kernel
theorem dX9_shut_21 : decode cX9_shut 21 = .ok (.getfield 53, 3) := by decide +kernel
theorem dX9_shut_24 : decode cX9_shut 24 = .ok (.getfield 178, 3) := by decide +kernel
theorem dX9_shut_27 : decode cX9_shut 27 = .ok (.invokestatic 181, 3) := by decide +kernel
theorem dX9_shut_30 : decode cX9_shut 30 = .ok (.ireturn, 1) := by decide +kernel
theorem dX9_open_0 : decode cX9_open 0 = .ok (.aload_n 0, 1) := by decide +kernel
theorem dX9_open_1 : decode cX9_open 1 = .ok (.iconst 5, 1) := by decide +kernel
theorem dX9_open_2 : decode cX9_open 2 = .ok (.iload_n 1, 1) := by decide +kernel
theorem dX9_open_3 : decode cX9_open 3 = .ok (.iconst 0, 1) := by decide +kernel
theorem dX9_open_4 : decode cX9_open 4 = .ok (.invokevirtual 166, 3) := by decide +kernel
theorem dX9_open_7 : decode cX9_open 7 = .ok (.ifCond .ne 13, 3) := by decide +kernel
theorem dX9_open_10 : decode cX9_open 10 = .ok (.new 170, 3) := by decide +kernel
theorem dX9_open_13 : decode cX9_open 13 = .ok (.dup, 1) := by decide +kernel
theorem dX9_open_14 : decode cX9_open 14 = .ok (.ldc 172, 2) := by decide +kernel
theorem dX9_open_16 : decode cX9_open 16 = .ok (.invokespecial 174, 3) := by decide +kernel
theorem dX9_open_19 : decode cX9_open 19 = .ok (.athrow, 1) := by decide +kernel
theorem dX9_open_20 : decode cX9_open 20 = .ok (.aload_n 0, 1) := by decide +kernel
theorem dX9_open_21 : decode cX9_open 21 = .ok (.getfield 53, 3) := by decide +kernel
theorem dX9_open_24 : decode cX9_open 24 = .ok (.getfield 186, 3) := by decide +kernel
theorem dX9_open_27 : decode cX9_open 27 = .ok (.invokestatic 181, 3) := by decide +kernel
theorem dX9_open_30 : decode cX9_open 30 = .ok (.ireturn, 1) := by decide +kernel
theorem dX9_toll_0 : decode cX9_toll 0 = .ok (.iload_n 2, 1) := by decide +kernel
theorem dX9_toll_1 : decode cX9_toll 1 = .ok (.ifCond .lt 9, 3) := by decide +kernel
theorem dX9_toll_4 : decode cX9_toll 4 = .ok (.iload_n 2, 1) := by decide +kernel
theorem dX9_toll_5 : decode cX9_toll 5 = .ok (.bipush 99, 2) := by decide +kernel
theorem dX9_toll_7 : decode cX9_toll 7 = .ok (.if_icmp .le 13, 3) := by decide +kernel
theorem dX9_toll_10 : decode cX9_toll 10 = .ok (.new 93, 3) := by decide +kernel
theorem dX9_toll_13 : decode cX9_toll 13 = .ok (.dup, 1) := by decide +kernel
theorem dX9_toll_14 : decode cX9_toll 14 = .ok (.ldc 189, 2) := by decide +kernel
theorem dX9_toll_16 : decode cX9_toll 16 = .ok (.invokespecial 97, 3) := by decide +kernel
theorem dX9_toll_19 : decode cX9_toll 19 = .ok (.athrow, 1) := by decide +kernel
theorem dX9_toll_20 : decode cX9_toll 20 = .ok (.aload_n 0, 1) := by decide +kernel
theorem dX9_toll_21 : decode cX9_toll 21 = .ok (.getfield 33, 3) := by decide +kernel
theorem dX9_toll_24 : decode cX9_toll 24 = .ok (.getfield 191, 3) := by decide +kernel
theorem dX9_toll_27 : decode cX9_toll 27 = .ok (.iload_n 1, 1) := by decide +kernel
theorem dX9_toll_28 : decode cX9_toll 28 = .ok (.invokestatic 140, 3) := by decide +kernel
theorem dX9_toll_31 : decode cX9_toll 31 = .ok (.istore_n 3, 1) := by decide +kernel
theorem dX9_toll_32 : decode cX9_toll 32 = .ok (.aload_n 0, 1) := by decide +kernel
theorem dX9_toll_33 : decode cX9_toll 33 = .ok (.bipush 6, 2) := by decide +kernel
theorem dX9_toll_35 : decode cX9_toll 35 = .ok (.iload_n 1, 1) := by decide +kernel
theorem dX9_toll_36 : decode cX9_toll 36 = .ok (.iload_n 2, 1) := by decide +kernel
theorem dX9_toll_37 : decode cX9_toll 37 = .ok (.invokevirtual 166, 3) := by decide +kernel
theorem dX9_toll_40 : decode cX9_toll 40 = .ok (.ifCond .ne 13, 3) := by decide +kernel
theorem dX9_toll_43 : decode cX9_toll 43 = .ok (.new 170, 3) := by decide +kernel
theorem dX9_toll_46 : decode cX9_toll 46 = .ok (.dup, 1) := by decide +kernel
theorem dX9_toll_47 : decode cX9_toll 47 = .ok (.ldc 172, 2) := by decide +kernel
theorem dX9_toll_49 : decode cX9_toll 49 = .ok (.invokespecial 174, 3) := by decide +kernel
theorem dX9_toll_52 : decode cX9_toll 52 = .ok (.athrow, 1) := by decide +kernel
theorem dX9_toll_53 : decode cX9_toll 53 = .ok (.iload_n 3, 1) := by decide +kernel
theorem dX9_toll_54 : decode cX9_toll 54 = .ok (.ireturn, 1) := by decide +kernel
theorem dX9_isDone_0 : decode cX9_isDone 0 = .ok (.aload_n 0, 1) := by decide +kernel
theorem dX9_isDone_1 : decode cX9_isDone 1 = .ok (.aload_n 0, 1) := by decide +kernel
theorem dX9_isDone_2 : decode cX9_isDone 2 = .ok (.getfield 33, 3) := by decide +kernel
theorem dX9_isDone_5 : decode cX9_isDone 5 = .ok (.iload_n 1, 1) := by decide +kernel
theorem dX9_isDone_6 : decode cX9_isDone 6 = .ok (.iload_n 2, 1) := by decide +kernel
theorem dX9_isDone_7 : decode cX9_isDone 7 = .ok (.iload_n 3, 1) := by decide +kernel
theorem dX9_isDone_8 : decode cX9_isDone 8 = .ok (.invokevirtual 144, 3) := by decide +kernel
theorem dX9_isDone_11 : decode cX9_isDone 11 = .ok (.putfield 77, 3) := by decide +kernel
theorem dX9_isDone_14 : decode cX9_isDone 14 = .ok (.aload_n 0, 1) := by decide +kernel
theorem dX9_isDone_15 : decode cX9_isDone 15 = .ok (.getfield 77, 3) := by decide +kernel
theorem dX9_isDone_18 : decode cX9_isDone 18 = .ok (.ifCond .eq 5, 3) := by decide +kernel
theorem dX9_isDone_21 : decode cX9_isDone 21 = .ok (.iconst 0, 1) := by decide +kernel
theorem dX9_isDone_22 : decode cX9_isDone 22 = .ok (.ireturn, 1) := by decide +kernel
theorem dX9_isDone_23 : decode cX9_isDone 23 = .ok (.aload_n 0, 1) := by decide +kernel
theorem dX9_isDone_24 : decode cX9_isDone 24 = .ok (.getfield 46, 3) := by decide +kernel
theorem dX9_isDone_27 : decode cX9_isDone 27 = .ok (.aload_n 0, 1) := by decide +kernel
theorem dX9_isDone_28 : decode cX9_isDone 28 = .ok (.getfield 33, 3) := by decide +kernel
theorem dX9_isDone_31 : decode cX9_isDone 31 = .ok (.invokevirtual 194, 3) := by decide +kernel
theorem dX9_isDone_34 : decode cX9_isDone 34 = .ok (.aload_n 0, 1) := by decide +kernel
theorem dX9_isDone_35 : decode cX9_isDone 35 = .ok (.getfield 33, 3) := by decide +kernel
theorem dX9_isDone_38 : decode cX9_isDone 38 = .ok (.iload_n 1, 1) := by decide +kernel
theorem dX9_isDone_39 : decode cX9_isDone 39 = .ok (.iload_n 2, 1) := by decide +kernel
theorem dX9_isDone_40 : decode cX9_isDone 40 = .ok (.iload_n 3, 1) := by decide +kernel
theorem dX9_isDone_41 : decode cX9_isDone 41 = .ok (.invokevirtual 148, 3) := by decide +kernel
theorem dX9_isDone_44 : decode cX9_isDone 44 = .ok (.aload_n 0, 1) := by decide +kernel
theorem dX9_isDone_45 : decode cX9_isDone 45 = .ok (.getfield 62, 3) := by decide +kernel
theorem dX9_isDone_48 : decode cX9_isDone 48 = .ok (.aload_n 0, 1) := by decide +kernel
theorem dX9_isDone_49 : decode cX9_isDone 49 = .ok (.getfield 53, 3) := by decide +kernel
theorem dX9_isDone_52 : decode cX9_isDone 52 = .ok (.invokevirtual 66, 3) := by decide +kernel
theorem dX9_isDone_55 : decode cX9_isDone 55 = .ok (.iconst 1, 1) := by decide +kernel
theorem dX9_isDone_56 : decode cX9_isDone 56 = .ok (.ireturn, 1) := by decide +kernel
theorem dX9_undo_0 : decode cX9_undo 0 = .ok (.aload_n 0, 1) := by decide +kernel
theorem dX9_undo_1 : decode cX9_undo 1 = .ok (.getfield 46, 3) := by decide +kernel
theorem dX9_undo_4 : decode cX9_undo 4 = .ok (.getfield 157, 3) := by decide +kernel
theorem dX9_undo_7 : decode cX9_undo 7 = .ok (.ifCond .ne 13, 3) := by decide +kernel
theorem dX9_undo_10 : decode cX9_undo 10 = .ok (.new 170, 3) := by decide +kernel
theorem dX9_undo_13 : decode cX9_undo 13 = .ok (.dup, 1) := by decide +kernel
theorem dX9_undo_14 : decode cX9_undo 14 = .ok (.ldc 197, 2) := by decide +kernel
theorem dX9_undo_16 : decode cX9_undo 16 = .ok (.invokespecial 174, 3) := by decide +kernel
theorem dX9_undo_19 : decode cX9_undo 19 = .ok (.athrow, 1) := by decide +kernel
theorem dX9_undo_20 : decode cX9_undo 20 = .ok (.aload_n 0, 1) := by decide +kernel
theorem dX9_undo_21 : decode cX9_undo 21 = .ok (.getfield 46, 3) := by decide +kernel
theorem dX9_undo_24 : decode cX9_undo 24 = .ok (.aload_n 0, 1) := by decide +kernel
theorem dX9_undo_25 : decode cX9_undo 25 = .ok (.getfield 33, 3) := by decide +kernel
theorem dX9_undo_28 : decode cX9_undo 28 = .ok (.invokevirtual 199, 3) := by decide +kernel
theorem dX9_undo_31 : decode cX9_undo 31 = .ok (.aload_n 0, 1) := by decide +kernel
theorem dX9_undo_32 : decode cX9_undo 32 = .ok (.getfield 62, 3) := by decide +kernel
theorem dX9_undo_35 : decode cX9_undo 35 = .ok (.aload_n 0, 1) := by decide +kernel
theorem dX9_undo_36 : decode cX9_undo 36 = .ok (.getfield 53, 3) := by decide +kernel
theorem dX9_undo_39 : decode cX9_undo 39 = .ok (.invokevirtual 66, 3) := by decide +kernel
theorem dX9_undo_42 : decode cX9_undo 42 = .ok (.aload_n 0, 1) := by decide +kernel
theorem dX9_undo_43 : decode cX9_undo 43 = .ok (.getfield 53, 3) := by decide +kernel
theorem dX9_undo_46 : decode cX9_undo 46 = .ok (.invokevirtual 70, 3) := by decide +kernel
theorem dX9_undo_49 : decode cX9_undo 49 = .ok (.aload_n 0, 1) := by decide +kernel
theorem dX9_undo_50 : decode cX9_undo 50 = .ok (.getfield 46, 3) := by decide +kernel
theorem dX9_undo_53 : decode cX9_undo 53 = .ok (.getfield 157, 3) := by decide +kernel
theorem dX9_undo_56 : decode cX9_undo 56 = .ok (.ireturn, 1) := by decide +kernel
theorem dX9_latest_0 : decode cX9_latest 0 = .ok (.iload_n 1, 1) := by decide +kernel
theorem dX9_latest_1 : decode cX9_latest 1 = .ok (.tableswitch 63 0 3 #[31, 39, 47, 55], 31) := by decide +kernel
theorem dX9_latest_32 : decode cX9_latest 32 = .ok (.aload_n 0, 1) := by decide +kernel
theorem dX9_latest_33 : decode cX9_latest 33 = .ok (.getfield 53, 3) := by decide +kernel
theorem dX9_latest_36 : decode cX9_latest 36 = .ok (.getfield 186, 3) := by decide +kernel
theorem dX9_latest_39 : decode cX9_latest 39 = .ok (.ireturn, 1) := by decide +kernel
theorem dX9_latest_40 : decode cX9_latest 40 = .ok (.aload_n 0, 1) := by decide +kernel
theorem dX9_latest_41 : decode cX9_latest 41 = .ok (.getfield 53, 3) := by decide +kernel
theorem dX9_latest_44 : decode cX9_latest 44 = .ok (.getfield 178, 3) := by decide +kernel
theorem dX9_latest_47 : decode cX9_latest 47 = .ok (.ireturn, 1) := by decide +kernel
theorem dX9_latest_48 : decode cX9_latest 48 = .ok (.aload_n 0, 1) := by decide +kernel
theorem dX9_latest_49 : decode cX9_latest 49 = .ok (.getfield 53, 3) := by decide +kernel
theorem dX9_latest_52 : decode cX9_latest 52 = .ok (.getfield 202, 3) := by decide +kernel
theorem dX9_latest_55 : decode cX9_latest 55 = .ok (.ireturn, 1) := by decide +kernel
theorem dX9_latest_56 : decode cX9_latest 56 = .ok (.aload_n 0, 1) := by decide +kernel
theorem dX9_latest_57 : decode cX9_latest 57 = .ok (.getfield 53, 3) := by decide +kernel
theorem dX9_latest_60 : decode cX9_latest 60 = .ok (.getfield 205, 3) := by decide +kernel
theorem dX9_latest_63 : decode cX9_latest 63 = .ok (.ireturn, 1) := by decide +kernel
theorem dX9_latest_64 : decode cX9_latest 64 = .ok (.new 208, 3) := by decide +kernel
theorem dX9_latest_67 : decode cX9_latest 67 = .ok (.dup, 1) := by decide +kernel
theorem dX9_latest_68 : decode cX9_latest 68 = .ok (.ldc 210, 2) := by decide +kernel
theorem dX9_latest_70 : decode cX9_latest 70 = .ok (.invokespecial 212, 3) := by decide +kernel
theorem dX9_latest_73 : decode cX9_latest 73 = .ok (.athrow, 1) := by decide +kernel
theorem dX9_node_0 : decode cX9_node 0 = .ok (.aload_n 0, 1) := by decide +kernel
theorem dX9_node_1 : decode cX9_node 1 = .ok (.getfield 33, 3) := by decide +kernel
theorem dX9_node_4 : decode cX9_node 4 = .ok (.iload_n 1, 1) := by decide +kernel
theorem dX9_node_5 : decode cX9_node 5 = .ok (.invokevirtual 213, 3) := by decide +kernel
theorem dX9_node_8 : decode cX9_node 8 = .ok (.ifCond .ne 13, 3) := by decide +kernel
theorem dX9_node_11 : decode cX9_node 11 = .ok (.new 216, 3) := by decide +kernel
theorem dX9_node_14 : decode cX9_node 14 = .ok (.dup, 1) := by decide +kernel
theorem dX9_node_15 : decode cX9_node 15 = .ok (.ldc 218, 2) := by decide +kernel
theorem dX9_node_17 : decode cX9_node 17 = .ok (.invokespecial 220, 3) := by decide +kernel
theorem dX9_node_20 : decode cX9_node 20 = .ok (.athrow, 1) := by decide +kernel
theorem dX9_node_21 : decode cX9_node 21 = .ok (.iload_n 2, 1) := by decide +kernel
theorem dX9_node_22 : decode cX9_node 22 = .ok (.tableswitch 332 0 21 #[102, 119, 134, 146, 161, 176, 185, 194, 203, 212, 221, 230, 239, 248, 257, 269, 278, 287, 296, 305, 314, 323], 102) := by decide +kernel
theorem dX9_node_124 : decode cX9_node 124 = .ok (.aload_n 0, 1) := by decide +kernel
theorem dX9_node_125 : decode cX9_node 125 = .ok (.getfield 62, 3) := by decide +kernel
theorem dX9_node_128 : decode cX9_node 128 = .ok (.iload_n 1, 1) := by decide +kernel
theorem dX9_node_129 : decode cX9_node 129 = .ok (.invokevirtual 221, 3) := by decide +kernel
theorem dX9_node_132 : decode cX9_node 132 = .ok (.ifCond .eq 7, 3) := by decide +kernel
theorem dX9_node_135 : decode cX9_node 135 = .ok (.iconst 1, 1) := by decide +kernel
theorem dX9_node_136 : decode cX9_node 136 = .ok (.goto 4, 3) := by decide +kernel
theorem dX9_node_139 : decode cX9_node 139 = .ok (.iconst 0, 1) := by decide +kernel
theorem dX9_node_140 : decode cX9_node 140 = .ok (.ireturn, 1) := by decide +kernel
theorem dX9_node_141 : decode cX9_node 141 = .ok (.aload_n 0, 1) := by decide +kernel
theorem dX9_node_142 : decode cX9_node 142 = .ok (.getfield 62, 3) := by decide +kernel
theorem dX9_node_145 : decode cX9_node 145 = .ok (.getfield 224, 3) := by decide +kernel
theorem dX9_node_148 : decode cX9_node 148 = .ok (.getfield 228, 3) := by decide +kernel
theorem dX9_node_151 : decode cX9_node 151 = .ok (.iload_n 1, 1) := by decide +kernel
theorem dX9_node_152 : decode cX9_node 152 = .ok (.invokestatic 140, 3) := by decide +kernel
theorem dX9_node_155 : decode cX9_node 155 = .ok (.ireturn, 1) := by decide +kernel
theorem dX9_node_156 : decode cX9_node 156 = .ok (.aload_n 0, 1) := by decide +kernel
theorem dX9_node_157 : decode cX9_node 157 = .ok (.getfield 62, 3) := by decide +kernel
theorem dX9_node_160 : decode cX9_node 160 = .ok (.getfield 224, 3) := by decide +kernel
theorem dX9_node_163 : decode cX9_node 163 = .ok (.iload_n 1, 1) := by decide +kernel
theorem dX9_node_164 : decode cX9_node 164 = .ok (.invokevirtual 233, 3) := by decide +kernel
theorem dX9_node_167 : decode cX9_node 167 = .ok (.ireturn, 1) := by decide +kernel
theorem dX9_node_168 : decode cX9_node 168 = .ok (.aload_n 0, 1) := by decide +kernel
theorem dX9_node_169 : decode cX9_node 169 = .ok (.getfield 62, 3) := by decide +kernel
theorem dX9_node_172 : decode cX9_node 172 = .ok (.getfield 224, 3) := by decide +kernel
theorem dX9_node_175 : decode cX9_node 175 = .ok (.getfield 236, 3) := by decide +kernel
theorem dX9_node_178 : decode cX9_node 178 = .ok (.iload_n 1, 1) := by decide +kernel
theorem dX9_node_179 : decode cX9_node 179 = .ok (.invokestatic 140, 3) := by decide +kernel
theorem dX9_node_182 : decode cX9_node 182 = .ok (.ireturn, 1) := by decide +kernel
theorem dX9_node_183 : decode cX9_node 183 = .ok (.aload_n 0, 1) := by decide +kernel
theorem dX9_node_184 : decode cX9_node 184 = .ok (.getfield 62, 3) := by decide +kernel
theorem dX9_node_187 : decode cX9_node 187 = .ok (.getfield 224, 3) := by decide +kernel
theorem dX9_node_190 : decode cX9_node 190 = .ok (.getfield 239, 3) := by decide +kernel
theorem dX9_node_193 : decode cX9_node 193 = .ok (.iload_n 1, 1) := by decide +kernel
theorem dX9_node_194 : decode cX9_node 194 = .ok (.invokestatic 140, 3) := by decide +kernel
theorem dX9_node_197 : decode cX9_node 197 = .ok (.ireturn, 1) := by decide +kernel
theorem dX9_node_198 : decode cX9_node 198 = .ok (.aload_n 0, 1) := by decide +kernel
theorem dX9_node_199 : decode cX9_node 199 = .ok (.getfield 62, 3) := by decide +kernel
theorem dX9_node_202 : decode cX9_node 202 = .ok (.iload_n 1, 1) := by decide +kernel
theorem dX9_node_203 : decode cX9_node 203 = .ok (.invokevirtual 242, 3) := by decide +kernel
theorem dX9_node_206 : decode cX9_node 206 = .ok (.ireturn, 1) := by decide +kernel
theorem dX9_node_207 : decode cX9_node 207 = .ok (.aload_n 0, 1) := by decide +kernel
theorem dX9_node_208 : decode cX9_node 208 = .ok (.getfield 62, 3) := by decide +kernel
theorem dX9_node_211 : decode cX9_node 211 = .ok (.iload_n 1, 1) := by decide +kernel
theorem dX9_node_212 : decode cX9_node 212 = .ok (.invokevirtual 245, 3) := by decide +kernel
theorem dX9_node_215 : decode cX9_node 215 = .ok (.ireturn, 1) := by decide +kernel
theorem dX9_node_216 : decode cX9_node 216 = .ok (.aload_n 0, 1) := by decide +kernel
theorem dX9_node_217 : decode cX9_node 217 = .ok (.getfield 62, 3) := by decide +kernel
theorem dX9_node_220 : decode cX9_node 220 = .ok (.iload_n 1, 1) := by decide +kernel
theorem dX9_node_221 : decode cX9_node 221 = .ok (.invokevirtual 248, 3) := by decide +kernel
theorem dX9_node_224 : decode cX9_node 224 = .ok (.ireturn, 1) := by decide +kernel
theorem dX9_node_225 : decode cX9_node 225 = .ok (.aload_n 0, 1) := by decide +kernel
theorem dX9_node_226 : decode cX9_node 226 = .ok (.getfield 62, 3) := by decide +kernel
theorem dX9_node_229 : decode cX9_node 229 = .ok (.iload_n 1, 1) := by decide +kernel
theorem dX9_node_230 : decode cX9_node 230 = .ok (.invokevirtual 251, 3) := by decide +kernel
theorem dX9_node_233 : decode cX9_node 233 = .ok (.ireturn, 1) := by decide +kernel
theorem dX9_node_234 : decode cX9_node 234 = .ok (.aload_n 0, 1) := by decide +kernel
theorem dX9_node_235 : decode cX9_node 235 = .ok (.getfield 62, 3) := by decide +kernel
theorem dX9_node_238 : decode cX9_node 238 = .ok (.iload_n 1, 1) := by decide +kernel
theorem dX9_node_239 : decode cX9_node 239 = .ok (.invokevirtual 254, 3) := by decide +kernel
theorem dX9_node_242 : decode cX9_node 242 = .ok (.ireturn, 1) := by decide +kernel
theorem dX9_node_243 : decode cX9_node 243 = .ok (.aload_n 0, 1) := by decide +kernel
theorem dX9_node_244 : decode cX9_node 244 = .ok (.getfield 62, 3) := by decide +kernel
theorem dX9_node_247 : decode cX9_node 247 = .ok (.iload_n 1, 1) := by decide +kernel
theorem dX9_node_248 : decode cX9_node 248 = .ok (.invokevirtual 257, 3) := by decide +kernel
theorem dX9_node_251 : decode cX9_node 251 = .ok (.ireturn, 1) := by decide +kernel
theorem dX9_node_252 : decode cX9_node 252 = .ok (.aload_n 0, 1) := by decide +kernel
theorem dX9_node_253 : decode cX9_node 253 = .ok (.getfield 62, 3) := by decide +kernel
theorem dX9_node_256 : decode cX9_node 256 = .ok (.iload_n 1, 1) := by decide +kernel
theorem dX9_node_257 : decode cX9_node 257 = .ok (.invokevirtual 260, 3) := by decide +kernel
theorem dX9_node_260 : decode cX9_node 260 = .ok (.ireturn, 1) := by decide +kernel
theorem dX9_node_261 : decode cX9_node 261 = .ok (.aload_n 0, 1) := by decide +kernel
theorem dX9_node_262 : decode cX9_node 262 = .ok (.getfield 62, 3) := by decide +kernel
theorem dX9_node_265 : decode cX9_node 265 = .ok (.iload_n 1, 1) := by decide +kernel
theorem dX9_node_266 : decode cX9_node 266 = .ok (.invokevirtual 263, 3) := by decide +kernel
theorem dX9_node_269 : decode cX9_node 269 = .ok (.ireturn, 1) := by decide +kernel
theorem dX9_node_270 : decode cX9_node 270 = .ok (.aload_n 0, 1) := by decide +kernel
theorem dX9_node_271 : decode cX9_node 271 = .ok (.getfield 62, 3) := by decide +kernel
theorem dX9_node_274 : decode cX9_node 274 = .ok (.iload_n 1, 1) := by decide +kernel
theorem dX9_node_275 : decode cX9_node 275 = .ok (.invokevirtual 266, 3) := by decide +kernel
theorem dX9_node_278 : decode cX9_node 278 = .ok (.ireturn, 1) := by decide +kernel
theorem dX9_node_279 : decode cX9_node 279 = .ok (.aload_n 0, 1) := by decide +kernel
theorem dX9_node_280 : decode cX9_node 280 = .ok (.getfield 33, 3) := by decide +kernel
theorem dX9_node_283 : decode cX9_node 283 = .ok (.getfield 191, 3) := by decide +kernel
theorem dX9_node_286 : decode cX9_node 286 = .ok (.iload_n 1, 1) := by decide +kernel
theorem dX9_node_287 : decode cX9_node 287 = .ok (.invokestatic 140, 3) := by decide +kernel
theorem dX9_node_290 : decode cX9_node 290 = .ok (.ireturn, 1) := by decide +kernel
theorem dX9_node_291 : decode cX9_node 291 = .ok (.aload_n 0, 1) := by decide +kernel
theorem dX9_node_292 : decode cX9_node 292 = .ok (.getfield 62, 3) := by decide +kernel
theorem dX9_node_295 : decode cX9_node 295 = .ok (.iload_n 1, 1) := by decide +kernel
theorem dX9_node_296 : decode cX9_node 296 = .ok (.invokevirtual 269, 3) := by decide +kernel
theorem dX9_node_299 : decode cX9_node 299 = .ok (.ireturn, 1) := by decide +kernel
theorem dX9_node_300 : decode cX9_node 300 = .ok (.aload_n 0, 1) := by decide +kernel
theorem dX9_node_301 : decode cX9_node 301 = .ok (.getfield 62, 3) := by decide +kernel
theorem dX9_node_304 : decode cX9_node 304 = .ok (.iload_n 1, 1) := by decide +kernel
theorem dX9_node_305 : decode cX9_node 305 = .ok (.invokevirtual 272, 3) := by decide +kernel
theorem dX9_node_308 : decode cX9_node 308 = .ok (.ireturn, 1) := by decide +kernel
theorem dX9_node_309 : decode cX9_node 309 = .ok (.aload_n 0, 1) := by decide +kernel
theorem dX9_node_310 : decode cX9_node 310 = .ok (.getfield 62, 3) := by decide +kernel
theorem dX9_node_313 : decode cX9_node 313 = .ok (.iload_n 1, 1) := by decide +kernel
theorem dX9_node_314 : decode cX9_node 314 = .ok (.invokevirtual 275, 3) := by decide +kernel
theorem dX9_node_317 : decode cX9_node 317 = .ok (.ireturn, 1) := by decide +kernel
theorem dX9_node_318 : decode cX9_node 318 = .ok (.aload_n 0, 1) := by decide +kernel
theorem dX9_node_319 : decode cX9_node 319 = .ok (.getfield 62, 3) := by decide +kernel
theorem dX9_node_322 : decode cX9_node 322 = .ok (.iload_n 1, 1) := by decide +kernel
theorem dX9_node_323 : decode cX9_node 323 = .ok (.invokevirtual 278, 3) := by decide +kernel
theorem dX9_node_326 : decode cX9_node 326 = .ok (.ireturn, 1) := by decide +kernel
theorem dX9_node_327 : decode cX9_node 327 = .ok (.aload_n 0, 1) := by decide +kernel
theorem dX9_node_328 : decode cX9_node 328 = .ok (.getfield 62, 3) := by decide +kernel
theorem dX9_node_331 : decode cX9_node 331 = .ok (.iload_n 1, 1) := by decide +kernel
theorem dX9_node_332 : decode cX9_node 332 = .ok (.invokevirtual 281, 3) := by decide +kernel
theorem dX9_node_335 : decode cX9_node 335 = .ok (.ireturn, 1) := by decide +kernel
theorem dX9_node_336 : decode cX9_node 336 = .ok (.aload_n 0, 1) := by decide +kernel
theorem dX9_node_337 : decode cX9_node 337 = .ok (.getfield 62, 3) := by decide +kernel
theorem dX9_node_340 : decode cX9_node 340 = .ok (.iload_n 1, 1) := by decide +kernel
theorem dX9_node_341 : decode cX9_node 341 = .ok (.invokevirtual 284, 3) := by decide +kernel
theorem dX9_node_344 : decode cX9_node 344 = .ok (.ireturn, 1) := by decide +kernel
theorem dX9_node_345 : decode cX9_node 345 = .ok (.aload_n 0, 1) := by decide +kernel
theorem dX9_node_346 : decode cX9_node 346 = .ok (.getfield 62, 3) := by decide +kernel
theorem dX9_node_349 : decode cX9_node 349 = .ok (.iload_n 1, 1) := by decide +kernel
theorem dX9_node_350 : decode cX9_node 350 = .ok (.invokevirtual 287, 3) := by decide +kernel
theorem dX9_node_353 : decode cX9_node 353 = .ok (.ireturn, 1) := by decide +kernel
theorem dX9_node_354 : decode cX9_node 354 = .ok (.new 208, 3) := by decide +kernel
theorem dX9_node_357 : decode cX9_node 357 = .ok (.dup, 1) := by decide +kernel
theorem dX9_node_358 : decode cX9_node 358 = .ok (.ldc 210, 2) := by decide +kernel
theorem dX9_node_360 : decode cX9_node 360 = .ok (.invokespecial 212, 3) := by decide +kernel
theorem dX9_node_363 : decode cX9_node 363 = .ok (.athrow, 1) := by decide +kernel
theorem dX9_keeps_0 : decode cX9_keeps 0 = .ok (.aload_n 0, 1) := by decide +kernel
theorem dX9_keeps_1 : decode cX9_keeps 1 = .ok (.getfield 33, 3) := by decide +kernel
theorem dX9_keeps_4 : decode cX9_keeps 4 = .ok (.iload_n 1, 1) := by decide +kernel
theorem dX9_keeps_5 : decode cX9_keeps 5 = .ok (.invokevirtual 213, 3) := by decide +kernel
theorem dX9_keeps_8 : decode cX9_keeps 8 = .ok (.ifCond .eq 14, 3) := by decide +kernel
theorem dX9_keeps_11 : decode cX9_keeps 11 = .ok (.aload_n 0, 1) := by decide +kernel
theorem dX9_keeps_12 : decode cX9_keeps 12 = .ok (.getfield 33, 3) := by decide +kernel
theorem dX9_keeps_15 : decode cX9_keeps 15 = .ok (.iload_n 2, 1) := by decide +kernel
theorem dX9_keeps_16 : decode cX9_keeps 16 = .ok (.invokevirtual 213, 3) := by decide +kernel
theorem dX9_keeps_19 : decode cX9_keeps 19 = .ok (.ifCond .ne 13, 3) := by decide +kernel
theorem dX9_keeps_22 : decode cX9_keeps 22 = .ok (.new 216, 3) := by decide +kernel
theorem dX9_keeps_25 : decode cX9_keeps 25 = .ok (.dup, 1) := by decide +kernel
theorem dX9_keeps_26 : decode cX9_keeps 26 = .ok (.ldc 218, 2) := by decide +kernel
theorem dX9_keeps_28 : decode cX9_keeps 28 = .ok (.invokespecial 220, 3) := by decide +kernel
theorem dX9_keeps_31 : decode cX9_keeps 31 = .ok (.athrow, 1) := by decide +kernel
theorem dX9_keeps_32 : decode cX9_keeps 32 = .ok (.aload_n 0, 1) := by decide +kernel
theorem dX9_keeps_33 : decode cX9_keeps 33 = .ok (.getfield 62, 3) := by decide +kernel
theorem dX9_keeps_36 : decode cX9_keeps 36 = .ok (.getfield 224, 3) := by decide +kernel
theorem dX9_keeps_39 : decode cX9_keeps 39 = .ok (.getfield 239, 3) := by decide +kernel
theorem dX9_keeps_42 : decode cX9_keeps 42 = .ok (.iload_n 1, 1) := by decide +kernel
theorem dX9_keeps_43 : decode cX9_keeps 43 = .ok (.invokestatic 140, 3) := by decide +kernel
theorem dX9_keeps_46 : decode cX9_keeps 46 = .ok (.iload_n 2, 1) := by decide +kernel
theorem dX9_keeps_47 : decode cX9_keeps 47 = .ok (.invokestatic 290, 3) := by decide +kernel
theorem dX9_keeps_50 : decode cX9_keeps 50 = .ok (.ireturn, 1) := by decide +kernel
theorem dX9_common_0 : decode cX9_common 0 = .ok (.aload_n 0, 1) := by decide +kernel
theorem dX9_common_1 : decode cX9_common 1 = .ok (.getfield 33, 3) := by decide +kernel
theorem dX9_common_4 : decode cX9_common 4 = .ok (.iload_n 1, 1) := by decide +kernel
theorem dX9_common_5 : decode cX9_common 5 = .ok (.invokevirtual 213, 3) := by decide +kernel
theorem dX9_common_8 : decode cX9_common 8 = .ok (.ifCond .eq 14, 3) := by decide +kernel
theorem dX9_common_11 : decode cX9_common 11 = .ok (.aload_n 0, 1) := by decide +kernel
theorem dX9_common_12 : decode cX9_common 12 = .ok (.getfield 33, 3) := by decide +kernel
theorem dX9_common_15 : decode cX9_common 15 = .ok (.iload_n 2, 1) := by decide +kernel
theorem dX9_common_16 : decode cX9_common 16 = .ok (.invokevirtual 213, 3) := by decide +kernel
theorem dX9_common_19 : decode cX9_common 19 = .ok (.ifCond .ne 13, 3) := by decide +kernel
theorem dX9_common_22 : decode cX9_common 22 = .ok (.new 216, 3) := by decide +kernel
theorem dX9_common_25 : decode cX9_common 25 = .ok (.dup, 1) := by decide +kernel
theorem dX9_common_26 : decode cX9_common 26 = .ok (.ldc 218, 2) := by decide +kernel
theorem dX9_common_28 : decode cX9_common 28 = .ok (.invokespecial 220, 3) := by decide +kernel
theorem dX9_common_31 : decode cX9_common 31 = .ok (.athrow, 1) := by decide +kernel
theorem dX9_common_32 : decode cX9_common 32 = .ok (.aload_n 0, 1) := by decide +kernel
theorem dX9_common_33 : decode cX9_common 33 = .ok (.getfield 62, 3) := by decide +kernel
theorem dX9_common_36 : decode cX9_common 36 = .ok (.getfield 224, 3) := by decide +kernel
theorem dX9_common_39 : decode cX9_common 39 = .ok (.aload_n 0, 1) := by decide +kernel
theorem dX9_common_40 : decode cX9_common 40 = .ok (.getfield 62, 3) := by decide +kernel
theorem dX9_common_43 : decode cX9_common 43 = .ok (.iload_n 1, 1) := by decide +kernel
theorem dX9_common_44 : decode cX9_common 44 = .ok (.invokevirtual 294, 3) := by decide +kernel
theorem dX9_common_47 : decode cX9_common 47 = .ok (.aload_n 0, 1) := by decide +kernel
theorem dX9_common_48 : decode cX9_common 48 = .ok (.getfield 62, 3) := by decide +kernel
theorem dX9_common_51 : decode cX9_common 51 = .ok (.iload_n 2, 1) := by decide +kernel
theorem dX9_common_52 : decode cX9_common 52 = .ok (.invokevirtual 294, 3) := by decide +kernel
theorem dX9_common_55 : decode cX9_common 55 = .ok (.iand, 1) := by decide +kernel
theorem dX9_common_56 : decode cX9_common 56 = .ok (.invokevirtual 297, 3) := by decide +kernel
theorem dX9_common_59 : decode cX9_common 59 = .ok (.ireturn, 1) := by decide +kernel
theorem dX9_walk_0 : decode cX9_walk 0 = .ok (.aload_n 0, 1) := by decide +kernel
theorem dX9_walk_1 : decode cX9_walk 1 = .ok (.getfield 62, 3) := by decide +kernel
theorem dX9_walk_4 : decode cX9_walk 4 = .ok (.iload_n 1, 1) := by decide +kernel
theorem dX9_walk_5 : decode cX9_walk 5 = .ok (.invokevirtual 300, 3) := by decide +kernel
theorem dX9_walk_8 : decode cX9_walk 8 = .ok (.ireturn, 1) := by decide +kernel
theorem dX9_without_0 : decode cX9_without 0 = .ok (.aload_n 0, 1) := by decide +kernel
theorem dX9_without_1 : decode cX9_without 1 = .ok (.getfield 33, 3) := by decide +kernel
theorem dX9_without_4 : decode cX9_without 4 = .ok (.iload_n 1, 1) := by decide +kernel
theorem dX9_without_5 : decode cX9_without 5 = .ok (.invokevirtual 213, 3) := by decide +kernel
theorem dX9_without_8 : decode cX9_without 8 = .ok (.ifCond .ne 13, 3) := by decide +kernel
theorem dX9_without_11 : decode cX9_without 11 = .ok (.new 216, 3) := by decide +kernel
theorem dX9_without_14 : decode cX9_without 14 = .ok (.dup, 1) := by decide +kernel
theorem dX9_without_15 : decode cX9_without 15 = .ok (.ldc 218, 2) := by decide +kernel
theorem dX9_without_17 : decode cX9_without 17 = .ok (.invokespecial 220, 3) := by decide +kernel
theorem dX9_without_20 : decode cX9_without 20 = .ok (.athrow, 1) := by decide +kernel
theorem dX9_without_21 : decode cX9_without 21 = .ok (.aload_n 0, 1) := by decide +kernel
theorem dX9_without_22 : decode cX9_without 22 = .ok (.getfield 62, 3) := by decide +kernel
theorem dX9_without_25 : decode cX9_without 25 = .ok (.getfield 224, 3) := by decide +kernel
theorem dX9_without_28 : decode cX9_without 28 = .ok (.getfield 239, 3) := by decide +kernel
theorem dX9_without_31 : decode cX9_without 31 = .ok (.iload_n 1, 1) := by decide +kernel
theorem dX9_without_32 : decode cX9_without 32 = .ok (.invokestatic 140, 3) := by decide +kernel
theorem dX9_without_35 : decode cX9_without 35 = .ok (.ireturn, 1) := by decide +kernel
theorem dX9_seal_0 : decode cX9_seal 0 = .ok (.iload_n 1, 1) := by decide +kernel
theorem dX9_seal_1 : decode cX9_seal 1 = .ok (.aload_n 0, 1) := by decide +kernel
theorem dX9_seal_2 : decode cX9_seal 2 = .ok (.getfield 33, 3) := by decide +kernel
theorem dX9_seal_5 : decode cX9_seal 5 = .ok (.invokevirtual 303, 3) := by decide +kernel
theorem dX9_seal_8 : decode cX9_seal 8 = .ok (.iconst (-1), 1) := by decide +kernel
theorem dX9_seal_9 : decode cX9_seal 9 = .ok (.ixor, 1) := by decide +kernel
theorem dX9_seal_10 : decode cX9_seal 10 = .ok (.iand, 1) := by decide +kernel
theorem dX9_seal_11 : decode cX9_seal 11 = .ok (.ifCond .eq 13, 3) := by decide +kernel
theorem dX9_seal_14 : decode cX9_seal 14 = .ok (.new 93, 3) := by decide +kernel
theorem dX9_seal_17 : decode cX9_seal 17 = .ok (.dup, 1) := by decide +kernel
theorem dX9_seal_18 : decode cX9_seal 18 = .ok (.ldc 218, 2) := by decide +kernel
theorem dX9_seal_20 : decode cX9_seal 20 = .ok (.invokespecial 97, 3) := by decide +kernel
theorem dX9_seal_23 : decode cX9_seal 23 = .ok (.athrow, 1) := by decide +kernel
theorem dX9_seal_24 : decode cX9_seal 24 = .ok (.aload_n 0, 1) := by decide +kernel
theorem dX9_seal_25 : decode cX9_seal 25 = .ok (.getfield 62, 3) := by decide +kernel
theorem dX9_seal_28 : decode cX9_seal 28 = .ok (.iload_n 1, 1) := by decide +kernel
theorem dX9_seal_29 : decode cX9_seal 29 = .ok (.invokevirtual 306, 3) := by decide +kernel
theorem dX9_seal_32 : decode cX9_seal 32 = .ok (.ireturn, 1) := by decide +kernel
theorem dX9_chain_0 : decode cX9_chain 0 = .ok (.aload_n 0, 1) := by decide +kernel
theorem dX9_chain_1 : decode cX9_chain 1 = .ok (.getfield 33, 3) := by decide +kernel
theorem dX9_chain_4 : decode cX9_chain 4 = .ok (.iload_n 1, 1) := by decide +kernel
theorem dX9_chain_5 : decode cX9_chain 5 = .ok (.invokevirtual 213, 3) := by decide +kernel
theorem dX9_chain_8 : decode cX9_chain 8 = .ok (.ifCond .ne 13, 3) := by decide +kernel
theorem dX9_chain_11 : decode cX9_chain 11 = .ok (.new 216, 3) := by decide +kernel
theorem dX9_chain_14 : decode cX9_chain 14 = .ok (.dup, 1) := by decide +kernel
theorem dX9_chain_15 : decode cX9_chain 15 = .ok (.ldc 218, 2) := by decide +kernel
theorem dX9_chain_17 : decode cX9_chain 17 = .ok (.invokespecial 220, 3) := by decide +kernel
theorem dX9_chain_20 : decode cX9_chain 20 = .ok (.athrow, 1) := by decide +kernel
theorem dX9_chain_21 : decode cX9_chain 21 = .ok (.aload_n 0, 1) := by decide +kernel
theorem dX9_chain_22 : decode cX9_chain 22 = .ok (.getfield 62, 3) := by decide +kernel
theorem dX9_chain_25 : decode cX9_chain 25 = .ok (.iload_n 1, 1) := by decide +kernel
theorem dX9_chain_26 : decode cX9_chain 26 = .ok (.iload_n 2, 1) := by decide +kernel
theorem dX9_chain_27 : decode cX9_chain 27 = .ok (.invokevirtual 309, 3) := by decide +kernel
theorem dX9_chain_30 : decode cX9_chain 30 = .ok (.ireturn, 1) := by decide +kernel
theorem dX9_level_0 : decode cX9_level 0 = .ok (.aload_n 0, 1) := by decide +kernel
theorem dX9_level_1 : decode cX9_level 1 = .ok (.getfield 62, 3) := by decide +kernel
theorem dX9_level_4 : decode cX9_level 4 = .ok (.iload_n 1, 1) := by decide +kernel
theorem dX9_level_5 : decode cX9_level 5 = .ok (.invokevirtual 313, 3) := by decide +kernel
theorem dX9_level_8 : decode cX9_level 8 = .ok (.ireturn, 1) := by decide +kernel
theorem dX9_via_0 : decode cX9_via 0 = .ok (.aload_n 0, 1) := by decide +kernel
theorem dX9_via_1 : decode cX9_via 1 = .ok (.getfield 33, 3) := by decide +kernel
theorem dX9_via_4 : decode cX9_via 4 = .ok (.iload_n 1, 1) := by decide +kernel
theorem dX9_via_5 : decode cX9_via 5 = .ok (.invokevirtual 213, 3) := by decide +kernel
theorem dX9_via_8 : decode cX9_via 8 = .ok (.ifCond .eq 14, 3) := by decide +kernel
theorem dX9_via_11 : decode cX9_via 11 = .ok (.aload_n 0, 1) := by decide +kernel
theorem dX9_via_12 : decode cX9_via 12 = .ok (.getfield 33, 3) := by decide +kernel
theorem dX9_via_15 : decode cX9_via 15 = .ok (.iload_n 2, 1) := by decide +kernel
theorem dX9_via_16 : decode cX9_via 16 = .ok (.invokevirtual 213, 3) := by decide +kernel
theorem dX9_via_19 : decode cX9_via 19 = .ok (.ifCond .ne 13, 3) := by decide +kernel
theorem dX9_via_22 : decode cX9_via 22 = .ok (.new 216, 3) := by decide +kernel
theorem dX9_via_25 : decode cX9_via 25 = .ok (.dup, 1) := by decide +kernel
theorem dX9_via_26 : decode cX9_via 26 = .ok (.ldc 218, 2) := by decide +kernel
theorem dX9_via_28 : decode cX9_via 28 = .ok (.invokespecial 220, 3) := by decide +kernel
theorem dX9_via_31 : decode cX9_via 31 = .ok (.athrow, 1) := by decide +kernel
theorem dX9_via_32 : decode cX9_via 32 = .ok (.aload_n 0, 1) := by decide +kernel
theorem dX9_via_33 : decode cX9_via 33 = .ok (.getfield 62, 3) := by decide +kernel
theorem dX9_via_36 : decode cX9_via 36 = .ok (.iload_n 1, 1) := by decide +kernel
theorem dX9_via_37 : decode cX9_via 37 = .ok (.iload_n 2, 1) := by decide +kernel
theorem dX9_via_38 : decode cX9_via 38 = .ok (.invokevirtual 316, 3) := by decide +kernel
theorem dX9_via_41 : decode cX9_via 41 = .ok (.ireturn, 1) := by decide +kernel
theorem dX9_pass_0 : decode cX9_pass 0 = .ok (.aload_n 0, 1) := by decide +kernel
theorem dX9_pass_1 : decode cX9_pass 1 = .ok (.getfield 33, 3) := by decide +kernel
theorem dX9_pass_4 : decode cX9_pass 4 = .ok (.iload_n 1, 1) := by decide +kernel
theorem dX9_pass_5 : decode cX9_pass 5 = .ok (.invokevirtual 213, 3) := by decide +kernel
theorem dX9_pass_8 : decode cX9_pass 8 = .ok (.ifCond .ne 13, 3) := by decide +kernel
theorem dX9_pass_11 : decode cX9_pass 11 = .ok (.new 216, 3) := by decide +kernel
theorem dX9_pass_14 : decode cX9_pass 14 = .ok (.dup, 1) := by decide +kernel
theorem dX9_pass_15 : decode cX9_pass 15 = .ok (.ldc 218, 2) := by decide +kernel
theorem dX9_pass_17 : decode cX9_pass 17 = .ok (.invokespecial 220, 3) := by decide +kernel
theorem dX9_pass_20 : decode cX9_pass 20 = .ok (.athrow, 1) := by decide +kernel
theorem dX9_pass_21 : decode cX9_pass 21 = .ok (.aload_n 0, 1) := by decide +kernel
theorem dX9_pass_22 : decode cX9_pass 22 = .ok (.getfield 62, 3) := by decide +kernel
theorem dX9_pass_25 : decode cX9_pass 25 = .ok (.iload_n 1, 1) := by decide +kernel
theorem dX9_pass_26 : decode cX9_pass 26 = .ok (.iload_n 2, 1) := by decide +kernel
theorem dX9_pass_27 : decode cX9_pass 27 = .ok (.invokevirtual 319, 3) := by decide +kernel
theorem dX9_pass_30 : decode cX9_pass 30 = .ok (.ireturn, 1) := by decide +kernel
theorem dX9_row_0 : decode cX9_row 0 = .ok (.aload_n 0, 1) := by decide +kernel
theorem dX9_row_1 : decode cX9_row 1 = .ok (.getfield 62, 3) := by decide +kernel
theorem dX9_row_4 : decode cX9_row 4 = .ok (.iload_n 1, 1) := by decide +kernel
theorem dX9_row_5 : decode cX9_row 5 = .ok (.invokevirtual 322, 3) := by decide +kernel
theorem dX9_row_8 : decode cX9_row 8 = .ok (.ireturn, 1) := by decide +kernel
theorem dX9_arc_0 : decode cX9_arc 0 = .ok (.aload_n 0, 1) := by decide +kernel
theorem dX9_arc_1 : decode cX9_arc 1 = .ok (.getfield 33, 3) := by decide +kernel
theorem dX9_arc_4 : decode cX9_arc 4 = .ok (.iload_n 1, 1) := by decide +kernel
theorem dX9_arc_5 : decode cX9_arc 5 = .ok (.invokevirtual 325, 3) := by decide +kernel
theorem dX9_arc_8 : decode cX9_arc 8 = .ok (.ifCond .ne 14, 3) := by decide +kernel
theorem dX9_arc_11 : decode cX9_arc 11 = .ok (.new 216, 3) := by decide +kernel
theorem dX9_arc_14 : decode cX9_arc 14 = .ok (.dup, 1) := by decide +kernel
theorem dX9_arc_15 : decode cX9_arc 15 = .ok (.ldc_w 328, 3) := by decide +kernel
theorem dX9_arc_18 : decode cX9_arc 18 = .ok (.invokespecial 220, 3) := by decide +kernel
theorem dX9_arc_21 : decode cX9_arc 21 = .ok (.athrow, 1) := by decide +kernel
theorem dX9_arc_22 : decode cX9_arc 22 = .ok (.iload_n 2, 1) := by decide +kernel
theorem dX9_arc_23 : decode cX9_arc 23 = .ok (.tableswitch 100 0 4 #[33, 45, 57, 74, 83], 33) := by decide +kernel
theorem dX9_arc_56 : decode cX9_arc 56 = .ok (.aload_n 0, 1) := by decide +kernel
theorem dX9_arc_57 : decode cX9_arc 57 = .ok (.getfield 33, 3) := by decide +kernel
theorem dX9_arc_60 : decode cX9_arc 60 = .ok (.getfield 330, 3) := by decide +kernel
theorem dX9_arc_63 : decode cX9_arc 63 = .ok (.iload_n 1, 1) := by decide +kernel
theorem dX9_arc_64 : decode cX9_arc 64 = .ok (.invokestatic 140, 3) := by decide +kernel
theorem dX9_arc_67 : decode cX9_arc 67 = .ok (.ireturn, 1) := by decide +kernel
theorem dX9_arc_68 : decode cX9_arc 68 = .ok (.aload_n 0, 1) := by decide +kernel
theorem dX9_arc_69 : decode cX9_arc 69 = .ok (.getfield 33, 3) := by decide +kernel
theorem dX9_arc_72 : decode cX9_arc 72 = .ok (.getfield 333, 3) := by decide +kernel
theorem dX9_arc_75 : decode cX9_arc 75 = .ok (.iload_n 1, 1) := by decide +kernel
theorem dX9_arc_76 : decode cX9_arc 76 = .ok (.invokestatic 140, 3) := by decide +kernel
theorem dX9_arc_79 : decode cX9_arc 79 = .ok (.ireturn, 1) := by decide +kernel
theorem dX9_arc_80 : decode cX9_arc 80 = .ok (.aload_n 0, 1) := by decide +kernel
theorem dX9_arc_81 : decode cX9_arc 81 = .ok (.getfield 33, 3) := by decide +kernel
theorem dX9_arc_84 : decode cX9_arc 84 = .ok (.iload_n 1, 1) := by decide +kernel
theorem dX9_arc_85 : decode cX9_arc 85 = .ok (.invokevirtual 336, 3) := by decide +kernel
theorem dX9_arc_88 : decode cX9_arc 88 = .ok (.ifCond .eq 7, 3) := by decide +kernel
theorem dX9_arc_91 : decode cX9_arc 91 = .ok (.iconst 1, 1) := by decide +kernel
theorem dX9_arc_92 : decode cX9_arc 92 = .ok (.goto 4, 3) := by decide +kernel
theorem dX9_arc_95 : decode cX9_arc 95 = .ok (.iconst 0, 1) := by decide +kernel
theorem dX9_arc_96 : decode cX9_arc 96 = .ok (.ireturn, 1) := by decide +kernel
theorem dX9_arc_97 : decode cX9_arc 97 = .ok (.aload_n 0, 1) := by decide +kernel
theorem dX9_arc_98 : decode cX9_arc 98 = .ok (.getfield 62, 3) := by decide +kernel
theorem dX9_arc_101 : decode cX9_arc 101 = .ok (.iload_n 1, 1) := by decide +kernel
theorem dX9_arc_102 : decode cX9_arc 102 = .ok (.invokevirtual 339, 3) := by decide +kernel
theorem dX9_arc_105 : decode cX9_arc 105 = .ok (.ireturn, 1) := by decide +kernel
theorem dX9_arc_106 : decode cX9_arc 106 = .ok (.aload_n 0, 1) := by decide +kernel
theorem dX9_arc_107 : decode cX9_arc 107 = .ok (.getfield 62, 3) := by decide +kernel
theorem dX9_arc_110 : decode cX9_arc 110 = .ok (.iload_n 1, 1) := by decide +kernel
theorem dX9_arc_111 : decode cX9_arc 111 = .ok (.invokevirtual 342, 3) := by decide +kernel
theorem dX9_arc_114 : decode cX9_arc 114 = .ok (.ifCond .eq 7, 3) := by decide +kernel
theorem dX9_arc_117 : decode cX9_arc 117 = .ok (.iconst 1, 1) := by decide +kernel
theorem dX9_arc_118 : decode cX9_arc 118 = .ok (.goto 4, 3) := by decide +kernel
theorem dX9_arc_121 : decode cX9_arc 121 = .ok (.iconst 0, 1) := by decide +kernel
theorem dX9_arc_122 : decode cX9_arc 122 = .ok (.ireturn, 1) := by decide +kernel
theorem dX9_arc_123 : decode cX9_arc 123 = .ok (.new 208, 3) := by decide +kernel
theorem dX9_arc_126 : decode cX9_arc 126 = .ok (.dup, 1) := by decide +kernel
theorem dX9_arc_127 : decode cX9_arc 127 = .ok (.ldc 210, 2) := by decide +kernel
theorem dX9_arc_129 : decode cX9_arc 129 = .ok (.invokespecial 212, 3) := by decide +kernel
theorem dX9_arc_132 : decode cX9_arc 132 = .ok (.athrow, 1) := by decide +kernel
theorem dX9_fall_0 : decode cX9_fall 0 = .ok (.aload_n 0, 1) := by decide +kernel
theorem dX9_fall_1 : decode cX9_fall 1 = .ok (.getfield 33, 3) := by decide +kernel
theorem dX9_fall_4 : decode cX9_fall 4 = .ok (.iload_n 1, 1) := by decide +kernel
theorem dX9_fall_5 : decode cX9_fall 5 = .ok (.invokevirtual 325, 3) := by decide +kernel
theorem dX9_fall_8 : decode cX9_fall 8 = .ok (.ifCond .ne 14, 3) := by decide +kernel
theorem dX9_fall_11 : decode cX9_fall 11 = .ok (.new 216, 3) := by decide +kernel
theorem dX9_fall_14 : decode cX9_fall 14 = .ok (.dup, 1) := by decide +kernel
theorem dX9_fall_15 : decode cX9_fall 15 = .ok (.ldc_w 328, 3) := by decide +kernel
theorem dX9_fall_18 : decode cX9_fall 18 = .ok (.invokespecial 220, 3) := by decide +kernel
theorem dX9_fall_21 : decode cX9_fall 21 = .ok (.athrow, 1) := by decide +kernel
theorem dX9_fall_22 : decode cX9_fall 22 = .ok (.iload_n 2, 1) := by decide +kernel
theorem dX9_fall_23 : decode cX9_fall 23 = .ok (.ifCond .lt 8, 3) := by decide +kernel
theorem dX9_fall_26 : decode cX9_fall 26 = .ok (.iload_n 2, 1) := by decide +kernel
theorem dX9_fall_27 : decode cX9_fall 27 = .ok (.iconst 2, 1) := by decide +kernel
theorem dX9_fall_28 : decode cX9_fall 28 = .ok (.if_icmp .le 13, 3) := by decide +kernel
theorem dX9_fall_31 : decode cX9_fall 31 = .ok (.new 208, 3) := by decide +kernel
theorem dX9_fall_34 : decode cX9_fall 34 = .ok (.dup, 1) := by decide +kernel
theorem dX9_fall_35 : decode cX9_fall 35 = .ok (.ldc 210, 2) := by decide +kernel
theorem dX9_fall_37 : decode cX9_fall 37 = .ok (.invokespecial 212, 3) := by decide +kernel
theorem dX9_fall_40 : decode cX9_fall 40 = .ok (.athrow, 1) := by decide +kernel
theorem dX9_fall_41 : decode cX9_fall 41 = .ok (.aload_n 0, 1) := by decide +kernel
theorem dX9_fall_42 : decode cX9_fall 42 = .ok (.getfield 33, 3) := by decide +kernel
theorem dX9_fall_45 : decode cX9_fall 45 = .ok (.iload_n 1, 1) := by decide +kernel
theorem dX9_fall_46 : decode cX9_fall 46 = .ok (.invokevirtual 336, 3) := by decide +kernel
theorem dX9_fall_49 : decode cX9_fall 49 = .ok (.ifCond .ne 14, 3) := by decide +kernel
theorem dX9_fall_52 : decode cX9_fall 52 = .ok (.new 170, 3) := by decide +kernel
theorem dX9_fall_55 : decode cX9_fall 55 = .ok (.dup, 1) := by decide +kernel
theorem dX9_fall_56 : decode cX9_fall 56 = .ok (.ldc_w 345, 3) := by decide +kernel
theorem dX9_fall_59 : decode cX9_fall 59 = .ok (.invokespecial 174, 3) := by decide +kernel
theorem dX9_fall_62 : decode cX9_fall 62 = .ok (.athrow, 1) := by decide +kernel
theorem dX9_fall_63 : decode cX9_fall 63 = .ok (.aload_n 0, 1) := by decide +kernel
theorem dX9_fall_64 : decode cX9_fall 64 = .ok (.getfield 62, 3) := by decide +kernel
theorem dX9_fall_67 : decode cX9_fall 67 = .ok (.iload_n 1, 1) := by decide +kernel
theorem dX9_fall_68 : decode cX9_fall 68 = .ok (.invokevirtual 347, 3) := by decide +kernel
theorem dX9_fall_71 : decode cX9_fall 71 = .ok (.astore_n 3, 1) := by decide +kernel
theorem dX9_fall_72 : decode cX9_fall 72 = .ok (.iload_n 2, 1) := by decide +kernel
theorem dX9_fall_73 : decode cX9_fall 73 = .ok (.ifCond .ne 10, 3) := by decide +kernel
theorem dX9_fall_76 : decode cX9_fall 76 = .ok (.aload_n 3, 1) := by decide +kernel
theorem dX9_fall_77 : decode cX9_fall 77 = .ok (.getfield 178, 3) := by decide +kernel
theorem dX9_fall_80 : decode cX9_fall 80 = .ok (.goto 19, 3) := by decide +kernel
theorem dX9_fall_83 : decode cX9_fall 83 = .ok (.iload_n 2, 1) := by decide +kernel
theorem dX9_fall_84 : decode cX9_fall 84 = .ok (.iconst 1, 1) := by decide +kernel
theorem dX9_fall_85 : decode cX9_fall 85 = .ok (.if_icmp .ne 10, 3) := by decide +kernel
theorem dX9_fall_88 : decode cX9_fall 88 = .ok (.aload_n 3, 1) := by decide +kernel
theorem dX9_fall_89 : decode cX9_fall 89 = .ok (.getfield 202, 3) := by decide +kernel
theorem dX9_fall_92 : decode cX9_fall 92 = .ok (.goto 7, 3) := by decide +kernel
theorem dX9_fall_95 : decode cX9_fall 95 = .ok (.aload_n 3, 1) := by decide +kernel
theorem dX9_fall_96 : decode cX9_fall 96 = .ok (.getfield 205, 3) := by decide +kernel
theorem dX9_fall_99 : decode cX9_fall 99 = .ok (.ireturn, 1) := by decide +kernel
theorem dX9_worst_0 : decode cX9_worst 0 = .ok (.iload_n 1, 1) := by decide +kernel
theorem dX9_worst_1 : decode cX9_worst 1 = .ok (.ifCond .eq 18, 3) := by decide +kernel
theorem dX9_worst_4 : decode cX9_worst 4 = .ok (.iload_n 1, 1) := by decide +kernel
theorem dX9_worst_5 : decode cX9_worst 5 = .ok (.iconst 1, 1) := by decide +kernel
theorem dX9_worst_6 : decode cX9_worst 6 = .ok (.if_icmp .eq 13, 3) := by decide +kernel
theorem dX9_worst_9 : decode cX9_worst 9 = .ok (.new 208, 3) := by decide +kernel
theorem dX9_worst_12 : decode cX9_worst 12 = .ok (.dup, 1) := by decide +kernel
theorem dX9_worst_13 : decode cX9_worst 13 = .ok (.ldc 210, 2) := by decide +kernel
theorem dX9_worst_15 : decode cX9_worst 15 = .ok (.invokespecial 212, 3) := by decide +kernel
theorem dX9_worst_18 : decode cX9_worst 18 = .ok (.athrow, 1) := by decide +kernel
theorem dX9_worst_19 : decode cX9_worst 19 = .ok (.aload_n 0, 1) := by decide +kernel
theorem dX9_worst_20 : decode cX9_worst 20 = .ok (.getfield 62, 3) := by decide +kernel
theorem dX9_worst_23 : decode cX9_worst 23 = .ok (.invokevirtual 351, 3) := by decide +kernel
theorem dX9_worst_26 : decode cX9_worst 26 = .ok (.istore_n 2, 1) := by decide +kernel
theorem dX9_worst_27 : decode cX9_worst 27 = .ok (.iload_n 1, 1) := by decide +kernel
theorem dX9_worst_28 : decode cX9_worst 28 = .ok (.ifCond .ne 5, 3) := by decide +kernel
theorem dX9_worst_31 : decode cX9_worst 31 = .ok (.iload_n 2, 1) := by decide +kernel
theorem dX9_worst_32 : decode cX9_worst 32 = .ok (.ireturn, 1) := by decide +kernel
theorem dX9_worst_33 : decode cX9_worst 33 = .ok (.aload_n 0, 1) := by decide +kernel
theorem dX9_worst_34 : decode cX9_worst 34 = .ok (.getfield 62, 3) := by decide +kernel
theorem dX9_worst_37 : decode cX9_worst 37 = .ok (.iload_n 2, 1) := by decide +kernel
theorem dX9_worst_38 : decode cX9_worst 38 = .ok (.invokevirtual 354, 3) := by decide +kernel
theorem dX9_worst_41 : decode cX9_worst 41 = .ok (.invokestatic 181, 3) := by decide +kernel
theorem dX9_worst_44 : decode cX9_worst 44 = .ok (.ireturn, 1) := by decide +kernel
theorem dX9_would_0 : decode cX9_would 0 = .ok (.aload_n 0, 1) := by decide +kernel
theorem dX9_would_1 : decode cX9_would 1 = .ok (.getfield 33, 3) := by decide +kernel
theorem dX9_would_4 : decode cX9_would 4 = .ok (.iload_n 1, 1) := by decide +kernel
theorem dX9_would_5 : decode cX9_would 5 = .ok (.invokevirtual 213, 3) := by decide +kernel
theorem dX9_would_8 : decode cX9_would 8 = .ok (.ifCond .eq 14, 3) := by decide +kernel
theorem dX9_would_11 : decode cX9_would 11 = .ok (.aload_n 0, 1) := by decide +kernel
theorem dX9_would_12 : decode cX9_would 12 = .ok (.getfield 33, 3) := by decide +kernel
theorem dX9_would_15 : decode cX9_would 15 = .ok (.iload_n 2, 1) := by decide +kernel
theorem dX9_would_16 : decode cX9_would 16 = .ok (.invokevirtual 213, 3) := by decide +kernel
theorem dX9_would_19 : decode cX9_would 19 = .ok (.ifCond .ne 13, 3) := by decide +kernel
theorem dX9_would_22 : decode cX9_would 22 = .ok (.new 216, 3) := by decide +kernel
theorem dX9_would_25 : decode cX9_would 25 = .ok (.dup, 1) := by decide +kernel
theorem dX9_would_26 : decode cX9_would 26 = .ok (.ldc 218, 2) := by decide +kernel
theorem dX9_would_28 : decode cX9_would 28 = .ok (.invokespecial 220, 3) := by decide +kernel
theorem dX9_would_31 : decode cX9_would 31 = .ok (.athrow, 1) := by decide +kernel
theorem dX9_would_32 : decode cX9_would 32 = .ok (.iload_n 3, 1) := by decide +kernel
theorem dX9_would_33 : decode cX9_would 33 = .ok (.ifCond .lt 8, 3) := by decide +kernel
theorem dX9_would_36 : decode cX9_would 36 = .ok (.iload_n 3, 1) := by decide +kernel
theorem dX9_would_37 : decode cX9_would 37 = .ok (.iconst 2, 1) := by decide +kernel
theorem dX9_would_38 : decode cX9_would 38 = .ok (.if_icmp .le 13, 3) := by decide +kernel
theorem dX9_would_41 : decode cX9_would 41 = .ok (.new 208, 3) := by decide +kernel
theorem dX9_would_44 : decode cX9_would 44 = .ok (.dup, 1) := by decide +kernel
theorem dX9_would_45 : decode cX9_would 45 = .ok (.ldc 210, 2) := by decide +kernel
theorem dX9_would_47 : decode cX9_would 47 = .ok (.invokespecial 212, 3) := by decide +kernel
theorem dX9_would_50 : decode cX9_would 50 = .ok (.athrow, 1) := by decide +kernel
theorem dX9_would_51 : decode cX9_would 51 = .ok (.aload_n 0, 1) := by decide +kernel
theorem dX9_would_52 : decode cX9_would 52 = .ok (.getfield 62, 3) := by decide +kernel
theorem dX9_would_55 : decode cX9_would 55 = .ok (.iload_n 1, 1) := by decide +kernel
theorem dX9_would_56 : decode cX9_would 56 = .ok (.iload_n 2, 1) := by decide +kernel
theorem dX9_would_57 : decode cX9_would 57 = .ok (.invokevirtual 357, 3) := by decide +kernel
theorem dX9_would_60 : decode cX9_would 60 = .ok (.astore 4, 2) := by decide +kernel
theorem dX9_would_62 : decode cX9_would 62 = .ok (.iload_n 3, 1) := by decide +kernel
theorem dX9_would_63 : decode cX9_would 63 = .ok (.ifCond .ne 11, 3) := by decide +kernel
theorem dX9_would_66 : decode cX9_would 66 = .ok (.aload 4, 2) := by decide +kernel
theorem dX9_would_68 : decode cX9_would 68 = .ok (.getfield 186, 3) := by decide +kernel
theorem dX9_would_71 : decode cX9_would 71 = .ok (.goto 21, 3) := by decide +kernel
theorem dX9_would_74 : decode cX9_would 74 = .ok (.iload_n 3, 1) := by decide +kernel
theorem dX9_would_75 : decode cX9_would 75 = .ok (.iconst 1, 1) := by decide +kernel
theorem dX9_would_76 : decode cX9_would 76 = .ok (.if_icmp .ne 11, 3) := by decide +kernel
theorem dX9_would_79 : decode cX9_would 79 = .ok (.aload 4, 2) := by decide +kernel
theorem dX9_would_81 : decode cX9_would 81 = .ok (.getfield 202, 3) := by decide +kernel
theorem dX9_would_84 : decode cX9_would 84 = .ok (.goto 8, 3) := by decide +kernel
theorem dX9_would_87 : decode cX9_would 87 = .ok (.aload 4, 2) := by decide +kernel
theorem dX9_would_89 : decode cX9_would 89 = .ok (.getfield 205, 3) := by decide +kernel
theorem dX9_would_92 : decode cX9_would 92 = .ok (.ireturn, 1) := by decide +kernel
theorem dX9_best_0 : decode cX9_best 0 = .ok (.iload_n 1, 1) := by decide +kernel
theorem dX9_best_1 : decode cX9_best 1 = .ok (.ifCond .lt 8, 3) := by decide +kernel
theorem dX9_best_4 : decode cX9_best 4 = .ok (.iload_n 1, 1) := by decide +kernel
theorem dX9_best_5 : decode cX9_best 5 = .ok (.iconst 2, 1) := by decide +kernel
theorem dX9_best_6 : decode cX9_best 6 = .ok (.if_icmp .le 13, 3) := by decide +kernel
theorem dX9_best_9 : decode cX9_best 9 = .ok (.new 208, 3) := by decide +kernel
theorem dX9_best_12 : decode cX9_best 12 = .ok (.dup, 1) := by decide +kernel
theorem dX9_best_13 : decode cX9_best 13 = .ok (.ldc 210, 2) := by decide +kernel
theorem dX9_best_15 : decode cX9_best 15 = .ok (.invokespecial 212, 3) := by decide +kernel
theorem dX9_best_18 : decode cX9_best 18 = .ok (.athrow, 1) := by decide +kernel
theorem dX9_best_19 : decode cX9_best 19 = .ok (.aload_n 0, 1) := by decide +kernel
theorem dX9_best_20 : decode cX9_best 20 = .ok (.getfield 62, 3) := by decide +kernel
theorem dX9_best_23 : decode cX9_best 23 = .ok (.invokevirtual 361, 3) := by decide +kernel
theorem dX9_best_26 : decode cX9_best 26 = .ok (.istore_n 2, 1) := by decide +kernel
theorem dX9_best_27 : decode cX9_best 27 = .ok (.iload_n 2, 1) := by decide +kernel
theorem dX9_best_28 : decode cX9_best 28 = .ok (.iconst (-1), 1) := by decide +kernel
theorem dX9_best_29 : decode cX9_best 29 = .ok (.if_icmp .ne 14, 3) := by decide +kernel
theorem dX9_best_32 : decode cX9_best 32 = .ok (.iload_n 1, 1) := by decide +kernel
theorem dX9_best_33 : decode cX9_best 33 = .ok (.iconst 2, 1) := by decide +kernel
theorem dX9_best_34 : decode cX9_best 34 = .ok (.if_icmp .ne 7, 3) := by decide +kernel
theorem dX9_best_37 : decode cX9_best 37 = .ok (.iconst 0, 1) := by decide +kernel
theorem dX9_best_38 : decode cX9_best 38 = .ok (.goto 4, 3) := by decide +kernel
theorem dX9_best_41 : decode cX9_best 41 = .ok (.iconst (-1), 1) := by decide +kernel
theorem dX9_best_42 : decode cX9_best 42 = .ok (.ireturn, 1) := by decide +kernel
theorem dX9_best_43 : decode cX9_best 43 = .ok (.iload_n 1, 1) := by decide +kernel
theorem dX9_best_44 : decode cX9_best 44 = .ok (.ifCond .ne 10, 3) := by decide +kernel
theorem dX9_best_47 : decode cX9_best 47 = .ok (.iload_n 2, 1) := by decide +kernel
theorem dX9_best_48 : decode cX9_best 48 = .ok (.bipush 16, 2) := by decide +kernel
theorem dX9_best_50 : decode cX9_best 50 = .ok (.idiv, 1) := by decide +kernel
theorem dX9_best_51 : decode cX9_best 51 = .ok (.goto 26, 3) := by decide +kernel
theorem dX9_best_54 : decode cX9_best 54 = .ok (.iload_n 1, 1) := by decide +kernel
theorem dX9_best_55 : decode cX9_best 55 = .ok (.iconst 1, 1) := by decide +kernel
theorem dX9_best_56 : decode cX9_best 56 = .ok (.if_icmp .ne 10, 3) := by decide +kernel
theorem dX9_best_59 : decode cX9_best 59 = .ok (.iload_n 2, 1) := by decide +kernel
theorem dX9_best_60 : decode cX9_best 60 = .ok (.bipush 16, 2) := by decide +kernel
theorem dX9_best_62 : decode cX9_best 62 = .ok (.irem, 1) := by decide +kernel
theorem dX9_best_63 : decode cX9_best 63 = .ok (.goto 14, 3) := by decide +kernel
theorem dX9_best_66 : decode cX9_best 66 = .ok (.aload_n 0, 1) := by decide +kernel
theorem dX9_best_67 : decode cX9_best 67 = .ok (.getfield 62, 3) := by decide +kernel
theorem dX9_best_70 : decode cX9_best 70 = .ok (.getfield 364, 3) := by decide +kernel
theorem dX9_best_73 : decode cX9_best 73 = .ok (.iload_n 2, 1) := by decide +kernel
theorem dX9_best_74 : decode cX9_best 74 = .ok (.invokestatic 140, 3) := by decide +kernel
theorem dX9_best_77 : decode cX9_best 77 = .ok (.ireturn, 1) := by decide +kernel
theorem dX9_text_0 : decode cX9_text 0 = .ok (.aload_n 0, 1) := by decide +kernel
theorem dX9_text_1 : decode cX9_text 1 = .ok (.getfield 33, 3) := by decide +kernel
theorem dX9_text_4 : decode cX9_text 4 = .ok (.iload_n 1, 1) := by decide +kernel
theorem dX9_text_5 : decode cX9_text 5 = .ok (.invokevirtual 213, 3) := by decide +kernel
theorem dX9_text_8 : decode cX9_text 8 = .ok (.ifCond .ne 13, 3) := by decide +kernel
theorem dX9_text_11 : decode cX9_text 11 = .ok (.new 216, 3) := by decide +kernel
theorem dX9_text_14 : decode cX9_text 14 = .ok (.dup, 1) := by decide +kernel
theorem dX9_text_15 : decode cX9_text 15 = .ok (.ldc 218, 2) := by decide +kernel
theorem dX9_text_17 : decode cX9_text 17 = .ok (.invokespecial 220, 3) := by decide +kernel
theorem dX9_text_20 : decode cX9_text 20 = .ok (.athrow, 1) := by decide +kernel
theorem dX9_text_21 : decode cX9_text 21 = .ok (.aload_n 0, 1) := by decide +kernel
theorem dX9_text_22 : decode cX9_text 22 = .ok (.getfield 18, 3) := by decide +kernel
theorem dX9_text_25 : decode cX9_text 25 = .ok (.iconst 0, 1) := by decide +kernel
theorem dX9_text_26 : decode cX9_text 26 = .ok (.putfield 80, 3) := by decide +kernel
theorem dX9_text_29 : decode cX9_text 29 = .ok (.aload_n 0, 1) := by decide +kernel
theorem dX9_text_30 : decode cX9_text 30 = .ok (.getfield 62, 3) := by decide +kernel
theorem dX9_text_33 : decode cX9_text 33 = .ok (.getfield 224, 3) := by decide +kernel
theorem dX9_text_36 : decode cX9_text 36 = .ok (.iload_n 1, 1) := by decide +kernel
theorem dX9_text_37 : decode cX9_text 37 = .ok (.invokevirtual 233, 3) := by decide +kernel
theorem dX9_text_40 : decode cX9_text 40 = .ok (.istore_n 2, 1) := by decide +kernel
theorem dX9_text_41 : decode cX9_text 41 = .ok (.iconst 0, 1) := by decide +kernel
theorem dX9_text_42 : decode cX9_text 42 = .ok (.istore_n 3, 1) := by decide +kernel
theorem dX9_text_43 : decode cX9_text 43 = .ok (.iload_n 3, 1) := by decide +kernel
theorem dX9_text_44 : decode cX9_text 44 = .ok (.iload_n 2, 1) := by decide +kernel
theorem dX9_text_45 : decode cX9_text 45 = .ok (.if_icmp .gt 44, 3) := by decide +kernel
theorem dX9_text_48 : decode cX9_text 48 = .ok (.iload_n 3, 1) := by decide +kernel
theorem dX9_text_49 : decode cX9_text 49 = .ok (.bipush 16, 2) := by decide +kernel
theorem dX9_text_51 : decode cX9_text 51 = .ok (.if_icmp .ge 38, 3) := by decide +kernel
theorem dX9_text_54 : decode cX9_text 54 = .ok (.iload_n 3, 1) := by decide +kernel
theorem dX9_text_55 : decode cX9_text 55 = .ok (.ifCond .le 12, 3) := by decide +kernel
theorem dX9_text_58 : decode cX9_text 58 = .ok (.aload_n 0, 1) := by decide +kernel
theorem dX9_text_59 : decode cX9_text 59 = .ok (.getfield 18, 3) := by decide +kernel
theorem dX9_text_62 : decode cX9_text 62 = .ok (.bipush 32, 2) := by decide +kernel
theorem dX9_text_64 : decode cX9_text 64 = .ok (.invokevirtual 367, 3) := by decide +kernel
theorem dX9_text_67 : decode cX9_text 67 = .ok (.aload_n 0, 1) := by decide +kernel
theorem dX9_text_68 : decode cX9_text 68 = .ok (.getfield 18, 3) := by decide +kernel
theorem dX9_text_71 : decode cX9_text 71 = .ok (.aload_n 0, 1) := by decide +kernel
theorem dX9_text_72 : decode cX9_text 72 = .ok (.getfield 62, 3) := by decide +kernel
theorem dX9_text_75 : decode cX9_text 75 = .ok (.iload_n 1, 1) := by decide +kernel
theorem dX9_text_76 : decode cX9_text 76 = .ok (.iload_n 3, 1) := by decide +kernel
theorem dX9_text_77 : decode cX9_text 77 = .ok (.invokevirtual 309, 3) := by decide +kernel
theorem dX9_text_80 : decode cX9_text 80 = .ok (.invokevirtual 370, 3) := by decide +kernel
theorem dX9_text_83 : decode cX9_text 83 = .ok (.iinc 3 1, 3) := by decide +kernel
theorem dX9_text_86 : decode cX9_text 86 = .ok (.goto (-43), 3) := by decide +kernel
theorem dX9_text_89 : decode cX9_text 89 = .ok (.aload_n 0, 1) := by decide +kernel
theorem dX9_text_90 : decode cX9_text 90 = .ok (.getfield 18, 3) := by decide +kernel
theorem dX9_text_93 : decode cX9_text 93 = .ok (.getfield 80, 3) := by decide +kernel
theorem dX9_text_96 : decode cX9_text 96 = .ok (.ireturn, 1) := by decide +kernel
theorem dX9_octet_0 : decode cX9_octet 0 = .ok (.aload_n 0, 1) := by decide +kernel
theorem dX9_octet_1 : decode cX9_octet 1 = .ok (.getfield 18, 3) := by decide +kernel
theorem dX9_octet_4 : decode cX9_octet 4 = .ok (.iload_n 1, 1) := by decide +kernel
theorem dX9_octet_5 : decode cX9_octet 5 = .ok (.invokevirtual 373, 3) := by decide +kernel
theorem dX9_octet_8 : decode cX9_octet 8 = .ok (.ireturn, 1) := by decide +kernel
theorem dX9_image_0 : decode cX9_image 0 = .ok (.aload_n 0, 1) := by decide +kernel
theorem dX9_image_1 : decode cX9_image 1 = .ok (.getfield 40, 3) := by decide +kernel
theorem dX9_image_4 : decode cX9_image 4 = .ok (.aload_n 0, 1) := by decide +kernel
theorem dX9_image_5 : decode cX9_image 5 = .ok (.getfield 33, 3) := by decide +kernel
theorem dX9_image_8 : decode cX9_image 8 = .ok (.invokevirtual 86, 3) := by decide +kernel
theorem dX9_image_11 : decode cX9_image 11 = .ok (.aload_n 0, 1) := by decide +kernel
theorem dX9_image_12 : decode cX9_image 12 = .ok (.iconst 1, 1) := by decide +kernel
theorem dX9_image_13 : decode cX9_image 13 = .ok (.putfield 376, 3) := by decide +kernel
theorem dX9_image_16 : decode cX9_image 16 = .ok (.return_, 1) := by decide +kernel
theorem dX9_back_0 : decode cX9_back 0 = .ok (.aload_n 0, 1) := by decide +kernel
theorem dX9_back_1 : decode cX9_back 1 = .ok (.getfield 376, 3) := by decide +kernel
theorem dX9_back_4 : decode cX9_back 4 = .ok (.ifCond .ne 5, 3) := by decide +kernel
theorem dX9_back_7 : decode cX9_back 7 = .ok (.iconst 0, 1) := by decide +kernel
theorem dX9_back_8 : decode cX9_back 8 = .ok (.ireturn, 1) := by decide +kernel
theorem dX9_back_9 : decode cX9_back 9 = .ok (.aload_n 0, 1) := by decide +kernel
theorem dX9_back_10 : decode cX9_back 10 = .ok (.getfield 33, 3) := by decide +kernel
theorem dX9_back_13 : decode cX9_back 13 = .ok (.aload_n 0, 1) := by decide +kernel
theorem dX9_back_14 : decode cX9_back 14 = .ok (.getfield 40, 3) := by decide +kernel
theorem dX9_back_17 : decode cX9_back 17 = .ok (.invokevirtual 86, 3) := by decide +kernel
theorem dX9_back_20 : decode cX9_back 20 = .ok (.aload_n 0, 1) := by decide +kernel
theorem dX9_back_21 : decode cX9_back 21 = .ok (.invokevirtual 100, 3) := by decide +kernel
theorem dX9_back_24 : decode cX9_back 24 = .ok (.iconst 1, 1) := by decide +kernel
theorem dX9_back_25 : decode cX9_back 25 = .ok (.ireturn, 1) := by decide +kernel
theorem dX9_count_0 : decode cX9_count 0 = .ok (.iload_n 1, 1) := by decide +kernel
theorem dX9_count_1 : decode cX9_count 1 = .ok (.tableswitch 273 0 18 #[91, 99, 107, 115, 123, 134, 145, 156, 164, 172, 180, 196, 207, 215, 223, 231, 239, 247, 265], 91) := by decide +kernel
theorem dX9_count_92 : decode cX9_count 92 = .ok (.aload_n 0, 1) := by decide +kernel
theorem dX9_count_93 : decode cX9_count 93 = .ok (.getfield 33, 3) := by decide +kernel
theorem dX9_count_96 : decode cX9_count 96 = .ok (.getfield 380, 3) := by decide +kernel
theorem dX9_count_99 : decode cX9_count 99 = .ok (.ireturn, 1) := by decide +kernel
theorem dX9_count_100 : decode cX9_count 100 = .ok (.aload_n 0, 1) := by decide +kernel
theorem dX9_count_101 : decode cX9_count 101 = .ok (.getfield 33, 3) := by decide +kernel
theorem dX9_count_104 : decode cX9_count 104 = .ok (.getfield 163, 3) := by decide +kernel
theorem dX9_count_107 : decode cX9_count 107 = .ok (.ireturn, 1) := by decide +kernel
theorem dX9_count_108 : decode cX9_count 108 = .ok (.aload_n 0, 1) := by decide +kernel
theorem dX9_count_109 : decode cX9_count 109 = .ok (.getfield 33, 3) := by decide +kernel
theorem dX9_count_112 : decode cX9_count 112 = .ok (.getfield 160, 3) := by decide +kernel
theorem dX9_count_115 : decode cX9_count 115 = .ok (.ireturn, 1) := by decide +kernel
theorem dX9_count_116 : decode cX9_count 116 = .ok (.aload_n 0, 1) := by decide +kernel
theorem dX9_count_117 : decode cX9_count 117 = .ok (.getfield 33, 3) := by decide +kernel
theorem dX9_count_120 : decode cX9_count 120 = .ok (.getfield 175, 3) := by decide +kernel
theorem dX9_count_123 : decode cX9_count 123 = .ok (.ireturn, 1) := by decide +kernel
theorem dX9_count_124 : decode cX9_count 124 = .ok (.aload_n 0, 1) := by decide +kernel
theorem dX9_count_125 : decode cX9_count 125 = .ok (.getfield 33, 3) := by decide +kernel
theorem dX9_count_128 : decode cX9_count 128 = .ok (.getfield 383, 3) := by decide +kernel
theorem dX9_count_131 : decode cX9_count 131 = .ok (.invokestatic 387, 3) := by decide +kernel
theorem dX9_count_134 : decode cX9_count 134 = .ok (.ireturn, 1) := by decide +kernel
theorem dX9_count_135 : decode cX9_count 135 = .ok (.aload_n 0, 1) := by decide +kernel
theorem dX9_count_136 : decode cX9_count 136 = .ok (.getfield 62, 3) := by decide +kernel
theorem dX9_count_139 : decode cX9_count 139 = .ok (.getfield 224, 3) := by decide +kernel
theorem dX9_count_142 : decode cX9_count 142 = .ok (.getfield 392, 3) := by decide +kernel
theorem dX9_count_145 : decode cX9_count 145 = .ok (.ireturn, 1) := by decide +kernel
theorem dX9_count_146 : decode cX9_count 146 = .ok (.aload_n 0, 1) := by decide +kernel
theorem dX9_count_147 : decode cX9_count 147 = .ok (.getfield 62, 3) := by decide +kernel
theorem dX9_count_150 : decode cX9_count 150 = .ok (.getfield 224, 3) := by decide +kernel
theorem dX9_count_153 : decode cX9_count 153 = .ok (.invokevirtual 395, 3) := by decide +kernel
theorem dX9_count_156 : decode cX9_count 156 = .ok (.ireturn, 1) := by decide +kernel
theorem dX9_count_157 : decode cX9_count 157 = .ok (.aload_n 0, 1) := by decide +kernel
theorem dX9_count_158 : decode cX9_count 158 = .ok (.getfield 62, 3) := by decide +kernel
theorem dX9_count_161 : decode cX9_count 161 = .ok (.invokevirtual 398, 3) := by decide +kernel
theorem dX9_count_164 : decode cX9_count 164 = .ok (.ireturn, 1) := by decide +kernel
theorem dX9_count_165 : decode cX9_count 165 = .ok (.aload_n 0, 1) := by decide +kernel
theorem dX9_count_166 : decode cX9_count 166 = .ok (.getfield 62, 3) := by decide +kernel
theorem dX9_count_169 : decode cX9_count 169 = .ok (.invokevirtual 401, 3) := by decide +kernel
theorem dX9_count_172 : decode cX9_count 172 = .ok (.ireturn, 1) := by decide +kernel
theorem dX9_count_173 : decode cX9_count 173 = .ok (.aload_n 0, 1) := by decide +kernel
theorem dX9_count_174 : decode cX9_count 174 = .ok (.getfield 62, 3) := by decide +kernel
theorem dX9_count_177 : decode cX9_count 177 = .ok (.invokevirtual 404, 3) := by decide +kernel
theorem dX9_count_180 : decode cX9_count 180 = .ok (.ireturn, 1) := by decide +kernel
theorem dX9_count_181 : decode cX9_count 181 = .ok (.aload_n 0, 1) := by decide +kernel
theorem dX9_count_182 : decode cX9_count 182 = .ok (.getfield 62, 3) := by decide +kernel
theorem dX9_count_185 : decode cX9_count 185 = .ok (.invokevirtual 407, 3) := by decide +kernel
theorem dX9_count_188 : decode cX9_count 188 = .ok (.ifCond .eq 7, 3) := by decide +kernel
theorem dX9_count_191 : decode cX9_count 191 = .ok (.iconst 1, 1) := by decide +kernel
theorem dX9_count_192 : decode cX9_count 192 = .ok (.goto 4, 3) := by decide +kernel
theorem dX9_count_195 : decode cX9_count 195 = .ok (.iconst 0, 1) := by decide +kernel
theorem dX9_count_196 : decode cX9_count 196 = .ok (.ireturn, 1) := by decide +kernel
theorem dX9_count_197 : decode cX9_count 197 = .ok (.aload_n 0, 1) := by decide +kernel
theorem dX9_count_198 : decode cX9_count 198 = .ok (.getfield 62, 3) := by decide +kernel
theorem dX9_count_201 : decode cX9_count 201 = .ok (.getfield 224, 3) := by decide +kernel
theorem dX9_count_204 : decode cX9_count 204 = .ok (.invokevirtual 410, 3) := by decide +kernel
theorem dX9_count_207 : decode cX9_count 207 = .ok (.ireturn, 1) := by decide +kernel
theorem dX9_count_208 : decode cX9_count 208 = .ok (.aload_n 0, 1) := by decide +kernel
theorem dX9_count_209 : decode cX9_count 209 = .ok (.getfield 62, 3) := by decide +kernel
theorem dX9_count_212 : decode cX9_count 212 = .ok (.invokevirtual 413, 3) := by decide +kernel
theorem dX9_count_215 : decode cX9_count 215 = .ok (.ireturn, 1) := by decide +kernel
theorem dX9_count_216 : decode cX9_count 216 = .ok (.aload_n 0, 1) := by decide +kernel
theorem dX9_count_217 : decode cX9_count 217 = .ok (.getfield 62, 3) := by decide +kernel
theorem dX9_count_220 : decode cX9_count 220 = .ok (.invokevirtual 416, 3) := by decide +kernel
theorem dX9_count_223 : decode cX9_count 223 = .ok (.ireturn, 1) := by decide +kernel
theorem dX9_count_224 : decode cX9_count 224 = .ok (.aload_n 0, 1) := by decide +kernel
theorem dX9_count_225 : decode cX9_count 225 = .ok (.getfield 46, 3) := by decide +kernel
theorem dX9_count_228 : decode cX9_count 228 = .ok (.getfield 157, 3) := by decide +kernel
theorem dX9_count_231 : decode cX9_count 231 = .ok (.ireturn, 1) := by decide +kernel
theorem dX9_count_232 : decode cX9_count 232 = .ok (.aload_n 0, 1) := by decide +kernel
theorem dX9_count_233 : decode cX9_count 233 = .ok (.getfield 62, 3) := by decide +kernel
theorem dX9_count_236 : decode cX9_count 236 = .ok (.invokevirtual 419, 3) := by decide +kernel
theorem dX9_count_239 : decode cX9_count 239 = .ok (.ireturn, 1) := by decide +kernel
theorem dX9_count_240 : decode cX9_count 240 = .ok (.aload_n 0, 1) := by decide +kernel
theorem dX9_count_241 : decode cX9_count 241 = .ok (.getfield 62, 3) := by decide +kernel
theorem dX9_count_244 : decode cX9_count 244 = .ok (.invokevirtual 422, 3) := by decide +kernel
theorem dX9_count_247 : decode cX9_count 247 = .ok (.ireturn, 1) := by decide +kernel
theorem dX9_count_248 : decode cX9_count 248 = .ok (.aload_n 0, 1) := by decide +kernel
theorem dX9_count_249 : decode cX9_count 249 = .ok (.getfield 62, 3) := by decide +kernel
theorem dX9_count_252 : decode cX9_count 252 = .ok (.aload_n 0, 1) := by decide +kernel
theorem dX9_count_253 : decode cX9_count 253 = .ok (.getfield 62, 3) := by decide +kernel
theorem dX9_count_256 : decode cX9_count 256 = .ok (.getfield 224, 3) := by decide +kernel
theorem dX9_count_259 : decode cX9_count 259 = .ok (.getfield 392, 3) := by decide +kernel
theorem dX9_count_262 : decode cX9_count 262 = .ok (.invokevirtual 425, 3) := by decide +kernel
theorem dX9_count_265 : decode cX9_count 265 = .ok (.ireturn, 1) := by decide +kernel
theorem dX9_count_266 : decode cX9_count 266 = .ok (.aload_n 0, 1) := by decide +kernel
theorem dX9_count_267 : decode cX9_count 267 = .ok (.getfield 62, 3) := by decide +kernel
theorem dX9_count_270 : decode cX9_count 270 = .ok (.invokevirtual 428, 3) := by decide +kernel
theorem dX9_count_273 : decode cX9_count 273 = .ok (.ireturn, 1) := by decide +kernel
theorem dX9_count_274 : decode cX9_count 274 = .ok (.iconst (-1), 1) := by decide +kernel
theorem dX9_count_275 : decode cX9_count 275 = .ok (.ireturn, 1) := by decide +kernel
theorem dX9_at_0 : decode cX9_at 0 = .ok (.iload_n 1, 1) := by decide +kernel
theorem dX9_at_1 : decode cX9_at 1 = .ok (.ifCond .lt 15, 3) := by decide +kernel
theorem dX9_at_4 : decode cX9_at 4 = .ok (.iload_n 1, 1) := by decide +kernel
theorem dX9_at_5 : decode cX9_at 5 = .ok (.aload_n 0, 1) := by decide +kernel
theorem dX9_at_6 : decode cX9_at 6 = .ok (.arraylength, 1) := by decide +kernel
theorem dX9_at_7 : decode cX9_at 7 = .ok (.if_icmp .ge 9, 3) := by decide +kernel
theorem dX9_at_10 : decode cX9_at 10 = .ok (.aload_n 0, 1) := by decide +kernel
theorem dX9_at_11 : decode cX9_at 11 = .ok (.iload_n 1, 1) := by decide +kernel
theorem dX9_at_12 : decode cX9_at 12 = .ok (.iaload, 1) := by decide +kernel
theorem dX9_at_13 : decode cX9_at 13 = .ok (.goto 4, 3) := by decide +kernel
theorem dX9_at_16 : decode cX9_at 16 = .ok (.iconst 0, 1) := by decide +kernel
theorem dX9_at_17 : decode cX9_at 17 = .ok (.ireturn, 1) := by decide +kernel
theorem dX9_put_0 : decode cX9_put 0 = .ok (.iload_n 1, 1) := by decide +kernel
theorem dX9_put_1 : decode cX9_put 1 = .ok (.ifCond .lt 13, 3) := by decide +kernel
theorem dX9_put_4 : decode cX9_put 4 = .ok (.iload_n 1, 1) := by decide +kernel
theorem dX9_put_5 : decode cX9_put 5 = .ok (.aload_n 0, 1) := by decide +kernel
theorem dX9_put_6 : decode cX9_put 6 = .ok (.arraylength, 1) := by decide +kernel
theorem dX9_put_7 : decode cX9_put 7 = .ok (.if_icmp .ge 7, 3) := by decide +kernel
theorem dX9_put_10 : decode cX9_put 10 = .ok (.aload_n 0, 1) := by decide +kernel
theorem dX9_put_11 : decode cX9_put 11 = .ok (.iload_n 1, 1) := by decide +kernel
theorem dX9_put_12 : decode cX9_put 12 = .ok (.iload_n 2, 1) := by decide +kernel
theorem dX9_put_13 : decode cX9_put 13 = .ok (.iastore, 1) := by decide +kernel
theorem dX9_put_14 : decode cX9_put 14 = .ok (.return_, 1) := by decide +kernel
theorem dX9_copyRow_0 : decode cX9_copyRow 0 = .ok (.aload_n 0, 1) := by decide +kernel
theorem dX9_copyRow_1 : decode cX9_copyRow 1 = .ok (.iconst 0, 1) := by decide +kernel
theorem dX9_copyRow_2 : decode cX9_copyRow 2 = .ok (.aload_n 1, 1) := by decide +kernel
theorem dX9_copyRow_3 : decode cX9_copyRow 3 = .ok (.iconst 0, 1) := by decide +kernel
theorem dX9_copyRow_4 : decode cX9_copyRow 4 = .ok (.aload_n 0, 1) := by decide +kernel
theorem dX9_copyRow_5 : decode cX9_copyRow 5 = .ok (.arraylength, 1) := by decide +kernel
theorem dX9_copyRow_6 : decode cX9_copyRow 6 = .ok (.aload_n 1, 1) := by decide +kernel
theorem dX9_copyRow_7 : decode cX9_copyRow 7 = .ok (.arraylength, 1) := by decide +kernel
theorem dX9_copyRow_8 : decode cX9_copyRow 8 = .ok (.invokestatic 431, 3) := by decide +kernel
theorem dX9_copyRow_11 : decode cX9_copyRow 11 = .ok (.invokestatic 436, 3) := by decide +kernel
theorem dX9_copyRow_14 : decode cX9_copyRow 14 = .ok (.return_, 1) := by decide +kernel
theorem dX9_only_0 : decode cX9_only 0 = .ok (.iconst 1, 1) := by decide +kernel
theorem dX9_only_1 : decode cX9_only 1 = .ok (.iload_n 0, 1) := by decide +kernel
theorem dX9_only_2 : decode cX9_only 2 = .ok (.ishl, 1) := by decide +kernel
theorem dX9_only_3 : decode cX9_only 3 = .ok (.ireturn, 1) := by decide +kernel
theorem dX9_has_0 : decode cX9_has 0 = .ok (.iload_n 0, 1) := by decide +kernel
theorem dX9_has_1 : decode cX9_has 1 = .ok (.iload_n 1, 1) := by decide +kernel
theorem dX9_has_2 : decode cX9_has 2 = .ok (.iushr, 1) := by decide +kernel
theorem dX9_has_3 : decode cX9_has 3 = .ok (.iconst 1, 1) := by decide +kernel
theorem dX9_has_4 : decode cX9_has 4 = .ok (.iand, 1) := by decide +kernel
theorem dX9_has_5 : decode cX9_has 5 = .ok (.ifCond .eq 7, 3) := by decide +kernel
theorem dX9_has_8 : decode cX9_has 8 = .ok (.iconst 1, 1) := by decide +kernel
theorem dX9_has_9 : decode cX9_has 9 = .ok (.goto 4, 3) := by decide +kernel
theorem dX9_has_12 : decode cX9_has 12 = .ok (.iconst 0, 1) := by decide +kernel
theorem dX9_has_13 : decode cX9_has 13 = .ok (.ireturn, 1) := by decide +kernel
theorem dX9_least_0 : decode cX9_least 0 = .ok (.iload_n 0, 1) := by decide +kernel
theorem dX9_least_1 : decode cX9_least 1 = .ok (.iload_n 0, 1) := by decide +kernel
theorem dX9_least_2 : decode cX9_least 2 = .ok (.ineg, 1) := by decide +kernel
theorem dX9_least_3 : decode cX9_least 3 = .ok (.iand, 1) := by decide +kernel
theorem dX9_least_4 : decode cX9_least 4 = .ok (.iconst 1, 1) := by decide +kernel
theorem dX9_least_5 : decode cX9_least 5 = .ok (.isub, 1) := by decide +kernel
theorem dX9_least_6 : decode cX9_least 6 = .ok (.invokestatic 181, 3) := by decide +kernel
theorem dX9_least_9 : decode cX9_least 9 = .ok (.ireturn, 1) := by decide +kernel
theorem dX9_withoutLeast_0 : decode cX9_withoutLeast 0 = .ok (.iload_n 0, 1) := by decide +kernel
theorem dX9_withoutLeast_1 : decode cX9_withoutLeast 1 = .ok (.iload_n 0, 1) := by decide +kernel
theorem dX9_withoutLeast_2 : decode cX9_withoutLeast 2 = .ok (.iconst 1, 1) := by decide +kernel
theorem dX9_withoutLeast_3 : decode cX9_withoutLeast 3 = .ok (.isub, 1) := by decide +kernel
theorem dX9_withoutLeast_4 : decode cX9_withoutLeast 4 = .ok (.iand, 1) := by decide +kernel
theorem dX9_withoutLeast_5 : decode cX9_withoutLeast 5 = .ok (.ireturn, 1) := by decide +kernel
theorem dX9_spread_0 : decode cX9_spread 0 = .ok (.iload_n 1, 1) := by decide +kernel
theorem dX9_spread_1 : decode cX9_spread 1 = .ok (.iload_n 2, 1) := by decide +kernel
theorem dX9_spread_2 : decode cX9_spread 2 = .ok (.iconst (-1), 1) := by decide +kernel
theorem dX9_spread_3 : decode cX9_spread 3 = .ok (.ixor, 1) := by decide +kernel
theorem dX9_spread_4 : decode cX9_spread 4 = .ok (.iand, 1) := by decide +kernel
theorem dX9_spread_5 : decode cX9_spread 5 = .ok (.istore_n 3, 1) := by decide +kernel
theorem dX9_spread_6 : decode cX9_spread 6 = .ok (.iload_n 3, 1) := by decide +kernel
theorem dX9_spread_7 : decode cX9_spread 7 = .ok (.istore 4, 2) := by decide +kernel
theorem dX9_spread_9 : decode cX9_spread 9 = .ok (.iconst 0, 1) := by decide +kernel
theorem dX9_spread_10 : decode cX9_spread 10 = .ok (.istore 5, 2) := by decide +kernel
theorem dX9_spread_12 : decode cX9_spread 12 = .ok (.iload 5, 2) := by decide +kernel
theorem dX9_spread_14 : decode cX9_spread 14 = .ok (.bipush 16, 2) := by decide +kernel
theorem dX9_spread_16 : decode cX9_spread 16 = .ok (.if_icmp .ge 48, 3) := by decide +kernel
theorem dX9_spread_19 : decode cX9_spread 19 = .ok (.iload 4, 2) := by decide +kernel
theorem dX9_spread_21 : decode cX9_spread 21 = .ok (.ifCond .eq 43, 3) := by decide +kernel
theorem dX9_spread_24 : decode cX9_spread 24 = .ok (.aload_n 0, 1) := by decide +kernel
theorem dX9_spread_25 : decode cX9_spread 25 = .ok (.iload 4, 2) := by decide +kernel
theorem dX9_spread_27 : decode cX9_spread 27 = .ok (.invokestatic 442, 3) := by decide +kernel
theorem dX9_spread_30 : decode cX9_spread 30 = .ok (.invokestatic 140, 3) := by decide +kernel
theorem dX9_spread_33 : decode cX9_spread 33 = .ok (.iload_n 3, 1) := by decide +kernel
theorem dX9_spread_34 : decode cX9_spread 34 = .ok (.iconst (-1), 1) := by decide +kernel
theorem dX9_spread_35 : decode cX9_spread 35 = .ok (.ixor, 1) := by decide +kernel
theorem dX9_spread_36 : decode cX9_spread 36 = .ok (.iand, 1) := by decide +kernel
theorem dX9_spread_37 : decode cX9_spread 37 = .ok (.iload_n 2, 1) := by decide +kernel
theorem dX9_spread_38 : decode cX9_spread 38 = .ok (.iconst (-1), 1) := by decide +kernel
theorem dX9_spread_39 : decode cX9_spread 39 = .ok (.ixor, 1) := by decide +kernel
theorem dX9_spread_40 : decode cX9_spread 40 = .ok (.iand, 1) := by decide +kernel
theorem dX9_spread_41 : decode cX9_spread 41 = .ok (.istore 6, 2) := by decide +kernel
theorem dX9_spread_43 : decode cX9_spread 43 = .ok (.iload_n 3, 1) := by decide +kernel
theorem dX9_spread_44 : decode cX9_spread 44 = .ok (.iload 6, 2) := by decide +kernel
theorem dX9_spread_46 : decode cX9_spread 46 = .ok (.ior, 1) := by decide +kernel
theorem dX9_spread_47 : decode cX9_spread 47 = .ok (.istore_n 3, 1) := by decide +kernel
theorem dX9_spread_48 : decode cX9_spread 48 = .ok (.iload 4, 2) := by decide +kernel
theorem dX9_spread_50 : decode cX9_spread 50 = .ok (.invokestatic 445, 3) := by decide +kernel
theorem dX9_spread_53 : decode cX9_spread 53 = .ok (.iload 6, 2) := by decide +kernel
theorem dX9_spread_55 : decode cX9_spread 55 = .ok (.ior, 1) := by decide +kernel
theorem dX9_spread_56 : decode cX9_spread 56 = .ok (.istore 4, 2) := by decide +kernel
theorem dX9_spread_58 : decode cX9_spread 58 = .ok (.iinc 5 1, 3) := by decide +kernel
theorem dX9_spread_61 : decode cX9_spread 61 = .ok (.goto (-49), 3) := by decide +kernel
theorem dX9_spread_64 : decode cX9_spread 64 = .ok (.iload_n 3, 1) := by decide +kernel
theorem dX9_spread_65 : decode cX9_spread 65 = .ok (.ireturn, 1) := by decide +kernel
theorem dX10_thrown_0 : decode cX10_thrown 0 = .ok (.aload_n 0, 1) := by decide +kernel
theorem dX10_thrown_1 : decode cX10_thrown 1 = .ok (.getfield 1, 3) := by decide +kernel
theorem dX10_thrown_4 : decode cX10_thrown 4 = .ok (.ireturn, 1) := by decide +kernel
theorem dX10_throwsIf_0 : decode cX10_throwsIf 0 = .ok (.iload_n 1, 1) := by decide +kernel
theorem dX10_throwsIf_1 : decode cX10_throwsIf 1 = .ok (.ifCond .eq 8, 3) := by decide +kernel
theorem dX10_throwsIf_4 : decode cX10_throwsIf 4 = .ok (.aload_n 0, 1) := by decide +kernel
theorem dX10_throwsIf_5 : decode cX10_throwsIf 5 = .ok (.iload_n 2, 1) := by decide +kernel
theorem dX10_throwsIf_6 : decode cX10_throwsIf 6 = .ok (.putfield 1, 3) := by decide +kernel
theorem dX10_throwsIf_9 : decode cX10_throwsIf 9 = .ok (.iload_n 1, 1) := by decide +kernel
theorem dX10_throwsIf_10 : decode cX10_throwsIf 10 = .ok (.ireturn, 1) := by decide +kernel
theorem dX10_in_0 : decode cX10_in 0 = .ok (.iload_n 0, 1) := by decide +kernel
theorem dX10_in_1 : decode cX10_in 1 = .ok (.iload_n 1, 1) := by decide +kernel
theorem dX10_in_2 : decode cX10_in 2 = .ok (.if_icmp .lt 12, 3) := by decide +kernel
theorem dX10_in_5 : decode cX10_in 5 = .ok (.iload_n 0, 1) := by decide +kernel
theorem dX10_in_6 : decode cX10_in 6 = .ok (.iload_n 2, 1) := by decide +kernel
theorem dX10_in_7 : decode cX10_in 7 = .ok (.if_icmp .gt 7, 3) := by decide +kernel
theorem dX10_in_10 : decode cX10_in 10 = .ok (.iconst 1, 1) := by decide +kernel
theorem dX10_in_11 : decode cX10_in 11 = .ok (.goto 4, 3) := by decide +kernel
theorem dX10_in_14 : decode cX10_in 14 = .ok (.iconst 0, 1) := by decide +kernel
theorem dX10_in_15 : decode cX10_in 15 = .ok (.ireturn, 1) := by decide +kernel
theorem dX10_holds_0 : decode cX10_holds 0 = .ok (.iload_n 0, 1) := by decide +kernel
theorem dX10_holds_1 : decode cX10_holds 1 = .ok (.iload_n 1, 1) := by decide +kernel
theorem dX10_holds_2 : decode cX10_holds 2 = .ok (.ishr, 1) := by decide +kernel
theorem dX10_holds_3 : decode cX10_holds 3 = .ok (.iconst 1, 1) := by decide +kernel
theorem dX10_holds_4 : decode cX10_holds 4 = .ok (.iand, 1) := by decide +kernel
theorem dX10_holds_5 : decode cX10_holds 5 = .ok (.iconst 1, 1) := by decide +kernel
theorem dX10_holds_6 : decode cX10_holds 6 = .ok (.if_icmp .ne 7, 3) := by decide +kernel
theorem dX10_holds_9 : decode cX10_holds 9 = .ok (.iconst 1, 1) := by decide +kernel
theorem dX10_holds_10 : decode cX10_holds 10 = .ok (.goto 4, 3) := by decide +kernel
theorem dX10_holds_13 : decode cX10_holds 13 = .ok (.iconst 0, 1) := by decide +kernel
theorem dX10_holds_14 : decode cX10_holds 14 = .ok (.ireturn, 1) := by decide +kernel
theorem dX10_bits_0 : decode cX10_bits 0 = .ok (.iconst 0, 1) := by decide +kernel
theorem dX10_bits_1 : decode cX10_bits 1 = .ok (.istore_n 1, 1) := by decide +kernel
theorem dX10_bits_2 : decode cX10_bits 2 = .ok (.iconst 0, 1) := by decide +kernel
theorem dX10_bits_3 : decode cX10_bits 3 = .ok (.istore_n 2, 1) := by decide +kernel
theorem dX10_bits_4 : decode cX10_bits 4 = .ok (.iload_n 2, 1) := by decide +kernel
theorem dX10_bits_5 : decode cX10_bits 5 = .ok (.bipush 16, 2) := by decide +kernel
theorem dX10_bits_7 : decode cX10_bits 7 = .ok (.if_icmp .ge 17, 3) := by decide +kernel
theorem dX10_bits_10 : decode cX10_bits 10 = .ok (.iload_n 1, 1) := by decide +kernel
theorem dX10_bits_11 : decode cX10_bits 11 = .ok (.iload_n 0, 1) := by decide +kernel
theorem dX10_bits_12 : decode cX10_bits 12 = .ok (.iload_n 2, 1) := by decide +kernel
theorem dX10_bits_13 : decode cX10_bits 13 = .ok (.ishr, 1) := by decide +kernel
theorem dX10_bits_14 : decode cX10_bits 14 = .ok (.iconst 1, 1) := by decide +kernel
theorem dX10_bits_15 : decode cX10_bits 15 = .ok (.iand, 1) := by decide +kernel
theorem dX10_bits_16 : decode cX10_bits 16 = .ok (.iadd, 1) := by decide +kernel
theorem dX10_bits_17 : decode cX10_bits 17 = .ok (.istore_n 1, 1) := by decide +kernel
theorem dX10_bits_18 : decode cX10_bits 18 = .ok (.iinc 2 1, 3) := by decide +kernel
theorem dX10_bits_21 : decode cX10_bits 21 = .ok (.goto (-17), 3) := by decide +kernel
theorem dX10_bits_24 : decode cX10_bits 24 = .ok (.iload_n 1, 1) := by decide +kernel
theorem dX10_bits_25 : decode cX10_bits 25 = .ok (.ireturn, 1) := by decide +kernel
theorem dX10_init_0 : decode cX10_init 0 = .ok (.aload_n 0, 1) := by decide +kernel
theorem dX10_init_1 : decode cX10_init 1 = .ok (.invokespecial 7, 3) := by decide +kernel
theorem dX10_init_4 : decode cX10_init 4 = .ok (.aload_n 0, 1) := by decide +kernel
theorem dX10_init_5 : decode cX10_init 5 = .ok (.sipush 200, 3) := by decide +kernel
theorem dX10_init_8 : decode cX10_init 8 = .ok (.newarray .int, 2) := by decide +kernel
theorem dX10_init_10 : decode cX10_init 10 = .ok (.putfield 13, 3) := by decide +kernel
theorem dX10_init_13 : decode cX10_init 13 = .ok (.aload_n 0, 1) := by decide +kernel
theorem dX10_init_14 : decode cX10_init 14 = .ok (.sipush 200, 3) := by decide +kernel
theorem dX10_init_17 : decode cX10_init 17 = .ok (.newarray .int, 2) := by decide +kernel
theorem dX10_init_19 : decode cX10_init 19 = .ok (.putfield 17, 3) := by decide +kernel
theorem dX10_init_22 : decode cX10_init 22 = .ok (.aload_n 0, 1) := by decide +kernel
theorem dX10_init_23 : decode cX10_init 23 = .ok (.sipush 200, 3) := by decide +kernel
theorem dX10_init_26 : decode cX10_init 26 = .ok (.newarray .int, 2) := by decide +kernel
theorem dX10_init_28 : decode cX10_init 28 = .ok (.putfield 20, 3) := by decide +kernel
theorem dX10_init_31 : decode cX10_init 31 = .ok (.aload_n 0, 1) := by decide +kernel
theorem dX10_init_32 : decode cX10_init 32 = .ok (.sipush 1600, 3) := by decide +kernel
theorem dX10_init_35 : decode cX10_init 35 = .ok (.newarray .int, 2) := by decide +kernel
theorem dX10_init_37 : decode cX10_init 37 = .ok (.putfield 23, 3) := by decide +kernel
theorem dX10_init_40 : decode cX10_init 40 = .ok (.aload_n 0, 1) := by decide +kernel
theorem dX10_init_41 : decode cX10_init 41 = .ok (.iconst (-1), 1) := by decide +kernel
theorem dX10_init_42 : decode cX10_init 42 = .ok (.putfield 26, 3) := by decide +kernel
theorem dX10_init_45 : decode cX10_init 45 = .ok (.aload_n 0, 1) := by decide +kernel
theorem dX10_init_46 : decode cX10_init 46 = .ok (.iconst (-1), 1) := by decide +kernel
theorem dX10_init_47 : decode cX10_init 47 = .ok (.putfield 29, 3) := by decide +kernel
theorem dX10_init_50 : decode cX10_init 50 = .ok (.aload_n 0, 1) := by decide +kernel
theorem dX10_init_51 : decode cX10_init 51 = .ok (.bipush 16, 2) := by decide +kernel
theorem dX10_init_53 : decode cX10_init 53 = .ok (.newarray .int, 2) := by decide +kernel
theorem dX10_init_55 : decode cX10_init 55 = .ok (.putfield 32, 3) := by decide +kernel
theorem dX10_init_58 : decode cX10_init 58 = .ok (.aload_n 0, 1) := by decide +kernel
theorem dX10_init_59 : decode cX10_init 59 = .ok (.bipush 16, 2) := by decide +kernel
theorem dX10_init_61 : decode cX10_init 61 = .ok (.newarray .int, 2) := by decide +kernel
theorem dX10_init_63 : decode cX10_init 63 = .ok (.putfield 35, 3) := by decide +kernel
theorem dX10_init_66 : decode cX10_init 66 = .ok (.aload_n 0, 1) := by decide +kernel
theorem dX10_init_67 : decode cX10_init 67 = .ok (.bipush 16, 2) := by decide +kernel
theorem dX10_init_69 : decode cX10_init 69 = .ok (.newarray .int, 2) := by decide +kernel
theorem dX10_init_71 : decode cX10_init 71 = .ok (.putfield 38, 3) := by decide +kernel
theorem dX10_init_74 : decode cX10_init 74 = .ok (.aload_n 0, 1) := by decide +kernel
theorem dX10_init_75 : decode cX10_init 75 = .ok (.bipush 16, 2) := by decide +kernel
theorem dX10_init_77 : decode cX10_init 77 = .ok (.newarray .int, 2) := by decide +kernel
theorem dX10_init_79 : decode cX10_init 79 = .ok (.putfield 41, 3) := by decide +kernel
theorem dX10_init_82 : decode cX10_init 82 = .ok (.aload_n 0, 1) := by decide +kernel
theorem dX10_init_83 : decode cX10_init 83 = .ok (.bipush 16, 2) := by decide +kernel
theorem dX10_init_85 : decode cX10_init 85 = .ok (.newarray .int, 2) := by decide +kernel
theorem dX10_init_87 : decode cX10_init 87 = .ok (.putfield 44, 3) := by decide +kernel
theorem dX10_init_90 : decode cX10_init 90 = .ok (.aload_n 0, 1) := by decide +kernel
theorem dX10_init_91 : decode cX10_init 91 = .ok (.sipush 400, 3) := by decide +kernel
theorem dX10_init_94 : decode cX10_init 94 = .ok (.newarray .byte, 2) := by decide +kernel
theorem dX10_init_96 : decode cX10_init 96 = .ok (.putfield 47, 3) := by decide +kernel
theorem dX10_init_99 : decode cX10_init 99 = .ok (.aload_n 0, 1) := by decide +kernel
theorem dX10_init_100 : decode cX10_init 100 = .ok (.iconst (-1), 1) := by decide +kernel
theorem dX10_init_101 : decode cX10_init 101 = .ok (.putfield 51, 3) := by decide +kernel
theorem dX10_init_104 : decode cX10_init 104 = .ok (.aload_n 0, 1) := by decide +kernel
theorem dX10_init_105 : decode cX10_init 105 = .ok (.iconst 5, 1) := by decide +kernel
theorem dX10_init_106 : decode cX10_init 106 = .ok (.newarray .int, 2) := by decide +kernel
theorem dX10_init_108 : decode cX10_init 108 = .ok (.putfield 54, 3) := by decide +kernel
theorem dX10_init_111 : decode cX10_init 111 = .ok (.aload_n 0, 1) := by decide +kernel
theorem dX10_init_112 : decode cX10_init 112 = .ok (.sipush 400, 3) := by decide +kernel
theorem dX10_init_115 : decode cX10_init 115 = .ok (.newarray .int, 2) := by decide +kernel
theorem dX10_init_117 : decode cX10_init 117 = .ok (.putfield 57, 3) := by decide +kernel
theorem dX10_init_120 : decode cX10_init 120 = .ok (.aload_n 0, 1) := by decide +kernel
theorem dX10_init_121 : decode cX10_init 121 = .ok (.bipush 60, 2) := by decide +kernel
theorem dX10_init_123 : decode cX10_init 123 = .ok (.newarray .int, 2) := by decide +kernel
theorem dX10_init_125 : decode cX10_init 125 = .ok (.putfield 60, 3) := by decide +kernel
theorem dX10_init_128 : decode cX10_init 128 = .ok (.aload_n 0, 1) := by decide +kernel
theorem dX10_init_129 : decode cX10_init 129 = .ok (.bipush 16, 2) := by decide +kernel
theorem dX10_init_131 : decode cX10_init 131 = .ok (.newarray .int, 2) := by decide +kernel
theorem dX10_init_133 : decode cX10_init 133 = .ok (.putfield 63, 3) := by decide +kernel
theorem dX10_init_136 : decode cX10_init 136 = .ok (.aload_n 0, 1) := by decide +kernel
theorem dX10_init_137 : decode cX10_init 137 = .ok (.bipush 16, 2) := by decide +kernel
theorem dX10_init_139 : decode cX10_init 139 = .ok (.newarray .int, 2) := by decide +kernel
theorem dX10_init_141 : decode cX10_init 141 = .ok (.putfield 66, 3) := by decide +kernel
theorem dX10_init_144 : decode cX10_init 144 = .ok (.aload_n 0, 1) := by decide +kernel
theorem dX10_init_145 : decode cX10_init 145 = .ok (.bipush 60, 2) := by decide +kernel
theorem dX10_init_147 : decode cX10_init 147 = .ok (.newarray .boolean, 2) := by decide +kernel
theorem dX10_init_149 : decode cX10_init 149 = .ok (.putfield 69, 3) := by decide +kernel
theorem dX10_init_152 : decode cX10_init 152 = .ok (.aload_n 0, 1) := by decide +kernel
theorem dX10_init_153 : decode cX10_init 153 = .ok (.bipush 100, 2) := by decide +kernel
theorem dX10_init_155 : decode cX10_init 155 = .ok (.newarray .byte, 2) := by decide +kernel
theorem dX10_init_157 : decode cX10_init 157 = .ok (.putfield 73, 3) := by decide +kernel
theorem dX10_init_160 : decode cX10_init 160 = .ok (.aload_n 0, 1) := by decide +kernel
theorem dX10_init_161 : decode cX10_init 161 = .ok (.bipush 8, 2) := by decide +kernel
theorem dX10_init_163 : decode cX10_init 163 = .ok (.invokevirtual 76, 3) := by decide +kernel
theorem dX10_init_166 : decode cX10_init 166 = .ok (.return_, 1) := by decide +kernel
theorem dX10_copies_0 : decode cX10_copies 0 = .ok (.iconst 0, 1) := by decide +kernel
theorem dX10_copies_1 : decode cX10_copies 1 = .ok (.istore 4, 2) := by decide +kernel
theorem dX10_copies_3 : decode cX10_copies 3 = .ok (.iload 4, 2) := by decide +kernel
theorem dX10_copies_5 : decode cX10_copies 5 = .ok (.sipush 200, 3) := by decide +kernel
theorem dX10_copies_8 : decode cX10_copies 8 = .ok (.if_icmp .ge 21, 3) := by decide +kernel
theorem dX10_copies_11 : decode cX10_copies 11 = .ok (.aload_n 2, 1) := by decide +kernel
theorem dX10_copies_12 : decode cX10_copies 12 = .ok (.iload_n 3, 1) := by decide +kernel
theorem dX10_copies_13 : decode cX10_copies 13 = .ok (.iload 4, 2) := by decide +kernel
theorem dX10_copies_15 : decode cX10_copies 15 = .ok (.iadd, 1) := by decide +kernel
theorem dX10_copies_16 : decode cX10_copies 16 = .ok (.aload_n 0, 1) := by decide +kernel
theorem dX10_copies_17 : decode cX10_copies 17 = .ok (.iload_n 1, 1) := by decide +kernel
theorem dX10_copies_18 : decode cX10_copies 18 = .ok (.iload 4, 2) := by decide +kernel
theorem dX10_copies_20 : decode cX10_copies 20 = .ok (.iadd, 1) := by decide +kernel
theorem dX10_copies_21 : decode cX10_copies 21 = .ok (.iaload, 1) := by decide +kernel
theorem dX10_copies_22 : decode cX10_copies 22 = .ok (.iastore, 1) := by decide +kernel
theorem dX10_copies_23 : decode cX10_copies 23 = .ok (.iinc 4 1, 3) := by decide +kernel
theorem dX10_copies_26 : decode cX10_copies 26 = .ok (.goto (-23), 3) := by decide +kernel
theorem dX10_copies_29 : decode cX10_copies 29 = .ok (.return_, 1) := by decide +kernel
theorem dX10_isFresh_0 : decode cX10_isFresh 0 = .ok (.iconst 0, 1) := by decide +kernel
theorem dX10_isFresh_1 : decode cX10_isFresh 1 = .ok (.istore_n 2, 1) := by decide +kernel
theorem dX10_isFresh_2 : decode cX10_isFresh 2 = .ok (.iload_n 2, 1) := by decide +kernel
theorem dX10_isFresh_3 : decode cX10_isFresh 3 = .ok (.sipush 200, 3) := by decide +kernel
theorem dX10_isFresh_6 : decode cX10_isFresh 6 = .ok (.if_icmp .ge 31, 3) := by decide +kernel
theorem dX10_isFresh_9 : decode cX10_isFresh 9 = .ok (.aload_n 0, 1) := by decide +kernel
theorem dX10_isFresh_10 : decode cX10_isFresh 10 = .ok (.getfield 13, 3) := by decide +kernel
theorem dX10_isFresh_13 : decode cX10_isFresh 13 = .ok (.iload_n 2, 1) := by decide +kernel
theorem dX10_isFresh_14 : decode cX10_isFresh 14 = .ok (.iload_n 2, 1) := by decide +kernel
theorem dX10_isFresh_15 : decode cX10_isFresh 15 = .ok (.iconst 4, 1) := by decide +kernel
theorem dX10_isFresh_16 : decode cX10_isFresh 16 = .ok (.if_icmp .lt 13, 3) := by decide +kernel
theorem dX10_isFresh_19 : decode cX10_isFresh 19 = .ok (.iload_n 2, 1) := by decide +kernel
theorem dX10_isFresh_20 : decode cX10_isFresh 20 = .ok (.bipush 20, 2) := by decide +kernel
theorem dX10_isFresh_22 : decode cX10_isFresh 22 = .ok (.if_icmp .ge 7, 3) := by decide +kernel
theorem dX10_isFresh_25 : decode cX10_isFresh 25 = .ok (.iconst 1, 1) := by decide +kernel
theorem dX10_isFresh_26 : decode cX10_isFresh 26 = .ok (.goto 4, 3) := by decide +kernel
theorem dX10_isFresh_29 : decode cX10_isFresh 29 = .ok (.iconst 0, 1) := by decide +kernel
theorem dX10_isFresh_30 : decode cX10_isFresh 30 = .ok (.iastore, 1) := by decide +kernel
theorem dX10_isFresh_31 : decode cX10_isFresh 31 = .ok (.iinc 2 1, 3) := by decide +kernel
theorem dX10_isFresh_34 : decode cX10_isFresh 34 = .ok (.goto (-32), 3) := by decide +kernel
theorem dX10_isFresh_37 : decode cX10_isFresh 37 = .ok (.aload_n 0, 1) := by decide +kernel
theorem dX10_isFresh_38 : decode cX10_isFresh 38 = .ok (.getfield 13, 3) := by decide +kernel
theorem dX10_isFresh_41 : decode cX10_isFresh 41 = .ok (.iconst 0, 1) := by decide +kernel
theorem dX10_isFresh_42 : decode cX10_isFresh 42 = .ok (.iload_n 1, 1) := by decide +kernel
theorem dX10_isFresh_43 : decode cX10_isFresh 43 = .ok (.iastore, 1) := by decide +kernel
theorem dX10_isFresh_44 : decode cX10_isFresh 44 = .ok (.aload_n 0, 1) := by decide +kernel
theorem dX10_isFresh_45 : decode cX10_isFresh 45 = .ok (.getfield 13, 3) := by decide +kernel
theorem dX10_isFresh_48 : decode cX10_isFresh 48 = .ok (.iconst 2, 1) := by decide +kernel
theorem dX10_isFresh_49 : decode cX10_isFresh 49 = .ok (.iload_n 1, 1) := by decide +kernel
theorem dX10_isFresh_50 : decode cX10_isFresh 50 = .ok (.iconst 1, 1) := by decide +kernel
theorem dX10_isFresh_51 : decode cX10_isFresh 51 = .ok (.isub, 1) := by decide +kernel
theorem dX10_isFresh_52 : decode cX10_isFresh 52 = .ok (.iastore, 1) := by decide +kernel
theorem dX10_isFresh_53 : decode cX10_isFresh 53 = .ok (.return_, 1) := by decide +kernel
theorem dX10_nodes_0 : decode cX10_nodes 0 = .ok (.aload_n 0, 1) := by decide +kernel
theorem dX10_nodes_1 : decode cX10_nodes 1 = .ok (.getfield 13, 3) := by decide +kernel
theorem dX10_nodes_4 : decode cX10_nodes 4 = .ok (.iconst 0, 1) := by decide +kernel
theorem dX10_nodes_5 : decode cX10_nodes 5 = .ok (.iaload, 1) := by decide +kernel
theorem dX10_nodes_6 : decode cX10_nodes 6 = .ok (.ireturn, 1) := by decide +kernel
theorem dX10_root_0 : decode cX10_root 0 = .ok (.aload_n 0, 1) := by decide +kernel
theorem dX10_root_1 : decode cX10_root 1 = .ok (.getfield 13, 3) := by decide +kernel
theorem dX10_root_4 : decode cX10_root 4 = .ok (.iconst 1, 1) := by decide +kernel
theorem dX10_root_5 : decode cX10_root 5 = .ok (.iaload, 1) := by decide +kernel
theorem dX10_root_6 : decode cX10_root 6 = .ok (.ireturn, 1) := by decide +kernel
theorem dX10_arcs_0 : decode cX10_arcs 0 = .ok (.aload_n 0, 1) := by decide +kernel
theorem dX10_arcs_1 : decode cX10_arcs 1 = .ok (.getfield 13, 3) := by decide +kernel
theorem dX10_arcs_4 : decode cX10_arcs 4 = .ok (.iconst 3, 1) := by decide +kernel
theorem dX10_arcs_5 : decode cX10_arcs 5 = .ok (.iaload, 1) := by decide +kernel
theorem dX10_arcs_6 : decode cX10_arcs 6 = .ok (.ireturn, 1) := by decide +kernel
theorem dX10_fromOf_0 : decode cX10_fromOf 0 = .ok (.aload_n 0, 1) := by decide +kernel
theorem dX10_fromOf_1 : decode cX10_fromOf 1 = .ok (.getfield 13, 3) := by decide +kernel
theorem dX10_fromOf_4 : decode cX10_fromOf 4 = .ok (.bipush 20, 2) := by decide +kernel
theorem dX10_fromOf_6 : decode cX10_fromOf 6 = .ok (.iload_n 1, 1) := by decide +kernel
theorem dX10_fromOf_7 : decode cX10_fromOf 7 = .ok (.iadd, 1) := by decide +kernel
theorem dX10_fromOf_8 : decode cX10_fromOf 8 = .ok (.iaload, 1) := by decide +kernel
theorem dX10_fromOf_9 : decode cX10_fromOf 9 = .ok (.ireturn, 1) := by decide +kernel
theorem dX10_toOf_0 : decode cX10_toOf 0 = .ok (.aload_n 0, 1) := by decide +kernel
theorem dX10_toOf_1 : decode cX10_toOf 1 = .ok (.getfield 13, 3) := by decide +kernel
theorem dX10_toOf_4 : decode cX10_toOf 4 = .ok (.bipush 80, 2) := by decide +kernel
theorem dX10_toOf_6 : decode cX10_toOf 6 = .ok (.iload_n 1, 1) := by decide +kernel
theorem dX10_toOf_7 : decode cX10_toOf 7 = .ok (.iadd, 1) := by decide +kernel
theorem dX10_toOf_8 : decode cX10_toOf 8 = .ok (.iaload, 1) := by decide +kernel
theorem dX10_toOf_9 : decode cX10_toOf 9 = .ok (.ireturn, 1) := by decide +kernel
theorem dX10_isOpen_0 : decode cX10_isOpen 0 = .ok (.aload_n 0, 1) := by decide +kernel
theorem dX10_isOpen_1 : decode cX10_isOpen 1 = .ok (.getfield 13, 3) := by decide +kernel
theorem dX10_isOpen_4 : decode cX10_isOpen 4 = .ok (.sipush 140, 3) := by decide +kernel
theorem dX10_isOpen_7 : decode cX10_isOpen 7 = .ok (.iload_n 1, 1) := by decide +kernel
theorem dX10_isOpen_8 : decode cX10_isOpen 8 = .ok (.iadd, 1) := by decide +kernel
theorem dX10_isOpen_9 : decode cX10_isOpen 9 = .ok (.iaload, 1) := by decide +kernel
theorem dX10_isOpen_10 : decode cX10_isOpen 10 = .ok (.iconst 1, 1) := by decide +kernel
theorem dX10_isOpen_11 : decode cX10_isOpen 11 = .ok (.if_icmp .ne 7, 3) := by decide +kernel
theorem dX10_isOpen_14 : decode cX10_isOpen 14 = .ok (.iconst 1, 1) := by decide +kernel
theorem dX10_isOpen_15 : decode cX10_isOpen 15 = .ok (.goto 4, 3) := by decide +kernel
theorem dX10_isOpen_18 : decode cX10_isOpen 18 = .ok (.iconst 0, 1) := by decide +kernel
theorem dX10_isOpen_19 : decode cX10_isOpen 19 = .ok (.ireturn, 1) := by decide +kernel
theorem dX10_isNode_0 : decode cX10_isNode 0 = .ok (.iload_n 1, 1) := by decide +kernel
theorem dX10_isNode_1 : decode cX10_isNode 1 = .ok (.iconst 0, 1) := by decide +kernel
theorem dX10_isNode_2 : decode cX10_isNode 2 = .ok (.aload_n 0, 1) := by decide +kernel
theorem dX10_isNode_3 : decode cX10_isNode 3 = .ok (.invokevirtual 80, 3) := by decide +kernel
theorem dX10_isNode_6 : decode cX10_isNode 6 = .ok (.iconst 1, 1) := by decide +kernel
theorem dX10_isNode_7 : decode cX10_isNode 7 = .ok (.isub, 1) := by decide +kernel
theorem dX10_isNode_8 : decode cX10_isNode 8 = .ok (.invokestatic 84, 3) := by decide +kernel
theorem dX10_isNode_11 : decode cX10_isNode 11 = .ok (.ireturn, 1) := by decide +kernel
theorem dX10_isArc_0 : decode cX10_isArc 0 = .ok (.iload_n 1, 1) := by decide +kernel
theorem dX10_isArc_1 : decode cX10_isArc 1 = .ok (.iconst 0, 1) := by decide +kernel
theorem dX10_isArc_2 : decode cX10_isArc 2 = .ok (.aload_n 0, 1) := by decide +kernel
theorem dX10_isArc_3 : decode cX10_isArc 3 = .ok (.invokevirtual 88, 3) := by decide +kernel
theorem dX10_isArc_6 : decode cX10_isArc 6 = .ok (.iconst 1, 1) := by decide +kernel
theorem dX10_isArc_7 : decode cX10_isArc 7 = .ok (.isub, 1) := by decide +kernel
theorem dX10_isArc_8 : decode cX10_isArc 8 = .ok (.invokestatic 84, 3) := by decide +kernel
theorem dX10_isArc_11 : decode cX10_isArc 11 = .ok (.ireturn, 1) := by decide +kernel
theorem dX10_reach_0 : decode cX10_reach 0 = .ok (.iload_n 1, 1) := by decide +kernel
theorem dX10_reach_1 : decode cX10_reach 1 = .ok (.iload_n 2, 1) := by decide +kernel
theorem dX10_reach_2 : decode cX10_reach 2 = .ok (.iconst (-1), 1) := by decide +kernel
theorem dX10_reach_3 : decode cX10_reach 3 = .ok (.ixor, 1) := by decide +kernel
theorem dX10_reach_4 : decode cX10_reach 4 = .ok (.iand, 1) := by decide +kernel
theorem dX10_reach_5 : decode cX10_reach 5 = .ok (.istore 4, 2) := by decide +kernel
theorem dX10_reach_7 : decode cX10_reach 7 = .ok (.iconst 0, 1) := by decide +kernel
theorem dX10_reach_8 : decode cX10_reach 8 = .ok (.istore 5, 2) := by decide +kernel
theorem dX10_reach_10 : decode cX10_reach 10 = .ok (.iload 4, 2) := by decide +kernel
theorem dX10_reach_12 : decode cX10_reach 12 = .ok (.iload 5, 2) := by decide +kernel
theorem dX10_reach_14 : decode cX10_reach 14 = .ok (.if_icmp .eq 134, 3) := by decide +kernel
theorem dX10_reach_17 : decode cX10_reach 17 = .ok (.iload 4, 2) := by decide +kernel
theorem dX10_reach_19 : decode cX10_reach 19 = .ok (.istore 5, 2) := by decide +kernel
theorem dX10_reach_21 : decode cX10_reach 21 = .ok (.iconst 0, 1) := by decide +kernel
theorem dX10_reach_22 : decode cX10_reach 22 = .ok (.istore 6, 2) := by decide +kernel
theorem dX10_reach_24 : decode cX10_reach 24 = .ok (.iload 6, 2) := by decide +kernel
theorem dX10_reach_26 : decode cX10_reach 26 = .ok (.aload_n 0, 1) := by decide +kernel
theorem dX10_reach_27 : decode cX10_reach 27 = .ok (.invokevirtual 88, 3) := by decide +kernel
theorem dX10_reach_30 : decode cX10_reach 30 = .ok (.if_icmp .ge 73, 3) := by decide +kernel
theorem dX10_reach_33 : decode cX10_reach 33 = .ok (.iload 6, 2) := by decide +kernel
theorem dX10_reach_35 : decode cX10_reach 35 = .ok (.iload_n 3, 1) := by decide +kernel
theorem dX10_reach_36 : decode cX10_reach 36 = .ok (.if_icmp .eq 61, 3) := by decide +kernel
theorem dX10_reach_39 : decode cX10_reach 39 = .ok (.iload 6, 2) := by decide +kernel
theorem dX10_reach_41 : decode cX10_reach 41 = .ok (.aload_n 0, 1) := by decide +kernel
theorem dX10_reach_42 : decode cX10_reach 42 = .ok (.getfield 29, 3) := by decide +kernel
theorem dX10_reach_45 : decode cX10_reach 45 = .ok (.if_icmp .eq 52, 3) := by decide +kernel
theorem dX10_reach_48 : decode cX10_reach 48 = .ok (.aload_n 0, 1) := by decide +kernel
theorem dX10_reach_49 : decode cX10_reach 49 = .ok (.iload 6, 2) := by decide +kernel
theorem dX10_reach_51 : decode cX10_reach 51 = .ok (.invokevirtual 91, 3) := by decide +kernel
theorem dX10_reach_54 : decode cX10_reach 54 = .ok (.ifCond .eq 43, 3) := by decide +kernel
theorem dX10_reach_57 : decode cX10_reach 57 = .ok (.iload 4, 2) := by decide +kernel
theorem dX10_reach_59 : decode cX10_reach 59 = .ok (.aload_n 0, 1) := by decide +kernel
theorem dX10_reach_60 : decode cX10_reach 60 = .ok (.iload 6, 2) := by decide +kernel
theorem dX10_reach_62 : decode cX10_reach 62 = .ok (.invokevirtual 95, 3) := by decide +kernel
theorem dX10_reach_65 : decode cX10_reach 65 = .ok (.invokestatic 99, 3) := by decide +kernel
theorem dX10_reach_68 : decode cX10_reach 68 = .ok (.ifCond .eq 29, 3) := by decide +kernel
theorem dX10_reach_71 : decode cX10_reach 71 = .ok (.iload_n 2, 1) := by decide +kernel
theorem dX10_reach_72 : decode cX10_reach 72 = .ok (.aload_n 0, 1) := by decide +kernel
theorem dX10_reach_73 : decode cX10_reach 73 = .ok (.iload 6, 2) := by decide +kernel
theorem dX10_reach_75 : decode cX10_reach 75 = .ok (.invokevirtual 103, 3) := by decide +kernel
theorem dX10_reach_78 : decode cX10_reach 78 = .ok (.invokestatic 99, 3) := by decide +kernel
theorem dX10_reach_81 : decode cX10_reach 81 = .ok (.ifCond .ne 16, 3) := by decide +kernel
theorem dX10_reach_84 : decode cX10_reach 84 = .ok (.iload 4, 2) := by decide +kernel
theorem dX10_reach_86 : decode cX10_reach 86 = .ok (.iconst 1, 1) := by decide +kernel
theorem dX10_reach_87 : decode cX10_reach 87 = .ok (.aload_n 0, 1) := by decide +kernel
theorem dX10_reach_88 : decode cX10_reach 88 = .ok (.iload 6, 2) := by decide +kernel
theorem dX10_reach_90 : decode cX10_reach 90 = .ok (.invokevirtual 103, 3) := by decide +kernel
theorem dX10_reach_93 : decode cX10_reach 93 = .ok (.ishl, 1) := by decide +kernel
theorem dX10_reach_94 : decode cX10_reach 94 = .ok (.ior, 1) := by decide +kernel
theorem dX10_reach_95 : decode cX10_reach 95 = .ok (.istore 4, 2) := by decide +kernel
theorem dX10_reach_97 : decode cX10_reach 97 = .ok (.iinc 6 1, 3) := by decide +kernel
theorem dX10_reach_100 : decode cX10_reach 100 = .ok (.goto (-76), 3) := by decide +kernel
theorem dX10_reach_103 : decode cX10_reach 103 = .ok (.aload_n 0, 1) := by decide +kernel
theorem dX10_reach_104 : decode cX10_reach 104 = .ok (.getfield 26, 3) := by decide +kernel
theorem dX10_reach_107 : decode cX10_reach 107 = .ok (.iconst (-1), 1) := by decide +kernel
theorem dX10_reach_108 : decode cX10_reach 108 = .ok (.if_icmp .eq (-98), 3) := by decide +kernel
theorem dX10_reach_111 : decode cX10_reach 111 = .ok (.iload 4, 2) := by decide +kernel
theorem dX10_reach_113 : decode cX10_reach 113 = .ok (.aload_n 0, 1) := by decide +kernel
theorem dX10_reach_114 : decode cX10_reach 114 = .ok (.getfield 26, 3) := by decide +kernel
theorem dX10_reach_117 : decode cX10_reach 117 = .ok (.invokestatic 99, 3) := by decide +kernel
theorem dX10_reach_120 : decode cX10_reach 120 = .ok (.ifCond .eq (-110), 3) := by decide +kernel
theorem dX10_reach_123 : decode cX10_reach 123 = .ok (.iload_n 2, 1) := by decide +kernel
theorem dX10_reach_124 : decode cX10_reach 124 = .ok (.aload_n 0, 1) := by decide +kernel
theorem dX10_reach_125 : decode cX10_reach 125 = .ok (.getfield 106, 3) := by decide +kernel
theorem dX10_reach_128 : decode cX10_reach 128 = .ok (.invokestatic 99, 3) := by decide +kernel
theorem dX10_reach_131 : decode cX10_reach 131 = .ok (.ifCond .ne (-121), 3) := by decide +kernel
theorem dX10_reach_134 : decode cX10_reach 134 = .ok (.iload 4, 2) := by decide +kernel
theorem dX10_reach_136 : decode cX10_reach 136 = .ok (.iconst 1, 1) := by decide +kernel
theorem dX10_reach_137 : decode cX10_reach 137 = .ok (.aload_n 0, 1) := by decide +kernel
theorem dX10_reach_138 : decode cX10_reach 138 = .ok (.getfield 106, 3) := by decide +kernel
theorem dX10_reach_141 : decode cX10_reach 141 = .ok (.ishl, 1) := by decide +kernel
theorem dX10_reach_142 : decode cX10_reach 142 = .ok (.ior, 1) := by decide +kernel
theorem dX10_reach_143 : decode cX10_reach 143 = .ok (.istore 4, 2) := by decide +kernel
theorem dX10_reach_145 : decode cX10_reach 145 = .ok (.goto (-135), 3) := by decide +kernel
theorem dX10_reach_148 : decode cX10_reach 148 = .ok (.iload 4, 2) := by decide +kernel
theorem dX10_reach_150 : decode cX10_reach 150 = .ok (.ireturn, 1) := by decide +kernel
theorem dX10_comers_0 : decode cX10_comers 0 = .ok (.iload_n 1, 1) := by decide +kernel
theorem dX10_comers_1 : decode cX10_comers 1 = .ok (.iload_n 2, 1) := by decide +kernel
theorem dX10_comers_2 : decode cX10_comers 2 = .ok (.iconst (-1), 1) := by decide +kernel
theorem dX10_comers_3 : decode cX10_comers 3 = .ok (.ixor, 1) := by decide +kernel
theorem dX10_comers_4 : decode cX10_comers 4 = .ok (.iand, 1) := by decide +kernel
theorem dX10_comers_5 : decode cX10_comers 5 = .ok (.istore_n 3, 1) := by decide +kernel
theorem dX10_comers_6 : decode cX10_comers 6 = .ok (.iconst 0, 1) := by decide +kernel
theorem dX10_comers_7 : decode cX10_comers 7 = .ok (.istore 4, 2) := by decide +kernel
theorem dX10_comers_9 : decode cX10_comers 9 = .ok (.iload_n 3, 1) := by decide +kernel
theorem dX10_comers_10 : decode cX10_comers 10 = .ok (.iload 4, 2) := by decide +kernel
theorem dX10_comers_12 : decode cX10_comers 12 = .ok (.if_icmp .eq 73, 3) := by decide +kernel
theorem dX10_comers_15 : decode cX10_comers 15 = .ok (.iload_n 3, 1) := by decide +kernel
theorem dX10_comers_16 : decode cX10_comers 16 = .ok (.istore 4, 2) := by decide +kernel
theorem dX10_comers_18 : decode cX10_comers 18 = .ok (.iconst 0, 1) := by decide +kernel
theorem dX10_comers_19 : decode cX10_comers 19 = .ok (.istore 5, 2) := by decide +kernel
theorem dX10_comers_21 : decode cX10_comers 21 = .ok (.iload 5, 2) := by decide +kernel
theorem dX10_comers_23 : decode cX10_comers 23 = .ok (.aload_n 0, 1) := by decide +kernel
theorem dX10_comers_24 : decode cX10_comers 24 = .ok (.invokevirtual 88, 3) := by decide +kernel
theorem dX10_comers_27 : decode cX10_comers 27 = .ok (.if_icmp .ge 55, 3) := by decide +kernel
theorem dX10_comers_30 : decode cX10_comers 30 = .ok (.aload_n 0, 1) := by decide +kernel
theorem dX10_comers_31 : decode cX10_comers 31 = .ok (.iload 5, 2) := by decide +kernel
theorem dX10_comers_33 : decode cX10_comers 33 = .ok (.invokevirtual 91, 3) := by decide +kernel
theorem dX10_comers_36 : decode cX10_comers 36 = .ok (.ifCond .eq 40, 3) := by decide +kernel
theorem dX10_comers_39 : decode cX10_comers 39 = .ok (.iload_n 3, 1) := by decide +kernel
theorem dX10_comers_40 : decode cX10_comers 40 = .ok (.aload_n 0, 1) := by decide +kernel
theorem dX10_comers_41 : decode cX10_comers 41 = .ok (.iload 5, 2) := by decide +kernel
theorem dX10_comers_43 : decode cX10_comers 43 = .ok (.invokevirtual 103, 3) := by decide +kernel
theorem dX10_comers_46 : decode cX10_comers 46 = .ok (.invokestatic 99, 3) := by decide +kernel
theorem dX10_comers_49 : decode cX10_comers 49 = .ok (.ifCond .eq 27, 3) := by decide +kernel
theorem dX10_comers_52 : decode cX10_comers 52 = .ok (.iload_n 2, 1) := by decide +kernel
theorem dX10_comers_53 : decode cX10_comers 53 = .ok (.aload_n 0, 1) := by decide +kernel
theorem dX10_comers_54 : decode cX10_comers 54 = .ok (.iload 5, 2) := by decide +kernel
theorem dX10_comers_56 : decode cX10_comers 56 = .ok (.invokevirtual 95, 3) := by decide +kernel
theorem dX10_comers_59 : decode cX10_comers 59 = .ok (.invokestatic 99, 3) := by decide +kernel
theorem dX10_comers_62 : decode cX10_comers 62 = .ok (.ifCond .ne 14, 3) := by decide +kernel
theorem dX10_comers_65 : decode cX10_comers 65 = .ok (.iload_n 3, 1) := by decide +kernel
theorem dX10_comers_66 : decode cX10_comers 66 = .ok (.iconst 1, 1) := by decide +kernel
theorem dX10_comers_67 : decode cX10_comers 67 = .ok (.aload_n 0, 1) := by decide +kernel
theorem dX10_comers_68 : decode cX10_comers 68 = .ok (.iload 5, 2) := by decide +kernel
theorem dX10_comers_70 : decode cX10_comers 70 = .ok (.invokevirtual 95, 3) := by decide +kernel
theorem dX10_comers_73 : decode cX10_comers 73 = .ok (.ishl, 1) := by decide +kernel
theorem dX10_comers_74 : decode cX10_comers 74 = .ok (.ior, 1) := by decide +kernel
theorem dX10_comers_75 : decode cX10_comers 75 = .ok (.istore_n 3, 1) := by decide +kernel
theorem dX10_comers_76 : decode cX10_comers 76 = .ok (.iinc 5 1, 3) := by decide +kernel
theorem dX10_comers_79 : decode cX10_comers 79 = .ok (.goto (-58), 3) := by decide +kernel
theorem dX10_comers_82 : decode cX10_comers 82 = .ok (.goto (-73), 3) := by decide +kernel
theorem dX10_comers_85 : decode cX10_comers 85 = .ok (.iload_n 3, 1) := by decide +kernel
theorem dX10_comers_86 : decode cX10_comers 86 = .ok (.ireturn, 1) := by decide +kernel
theorem dX10_reachedBut_0 : decode cX10_reachedBut 0 = .ok (.aload_n 0, 1) := by decide +kernel
theorem dX10_reachedBut_1 : decode cX10_reachedBut 1 = .ok (.iconst 1, 1) := by decide +kernel
theorem dX10_reachedBut_2 : decode cX10_reachedBut 2 = .ok (.aload_n 0, 1) := by decide +kernel
theorem dX10_reachedBut_3 : decode cX10_reachedBut 3 = .ok (.invokevirtual 109, 3) := by decide +kernel
theorem dX10_reachedBut_6 : decode cX10_reachedBut 6 = .ok (.ishl, 1) := by decide +kernel
theorem dX10_reachedBut_7 : decode cX10_reachedBut 7 = .ok (.iload_n 1, 1) := by decide +kernel
theorem dX10_reachedBut_8 : decode cX10_reachedBut 8 = .ok (.iload_n 2, 1) := by decide +kernel
theorem dX10_reachedBut_9 : decode cX10_reachedBut 9 = .ok (.invokevirtual 112, 3) := by decide +kernel
theorem dX10_reachedBut_12 : decode cX10_reachedBut 12 = .ok (.ireturn, 1) := by decide +kernel
theorem dX10_laysGates_0 : decode cX10_laysGates 0 = .ok (.aload_n 0, 1) := by decide +kernel
theorem dX10_laysGates_1 : decode cX10_laysGates 1 = .ok (.aload_n 0, 1) := by decide +kernel
theorem dX10_laysGates_2 : decode cX10_laysGates 2 = .ok (.iconst 0, 1) := by decide +kernel
theorem dX10_laysGates_3 : decode cX10_laysGates 3 = .ok (.iconst (-1), 1) := by decide +kernel
theorem dX10_laysGates_4 : decode cX10_laysGates 4 = .ok (.invokevirtual 116, 3) := by decide +kernel
theorem dX10_laysGates_7 : decode cX10_laysGates 7 = .ok (.putfield 120, 3) := by decide +kernel
theorem dX10_laysGates_10 : decode cX10_laysGates 10 = .ok (.iconst 0, 1) := by decide +kernel
theorem dX10_laysGates_11 : decode cX10_laysGates 11 = .ok (.istore_n 1, 1) := by decide +kernel
theorem dX10_laysGates_12 : decode cX10_laysGates 12 = .ok (.iload_n 1, 1) := by decide +kernel
theorem dX10_laysGates_13 : decode cX10_laysGates 13 = .ok (.bipush 16, 2) := by decide +kernel
theorem dX10_laysGates_15 : decode cX10_laysGates 15 = .ok (.if_icmp .ge 16, 3) := by decide +kernel
theorem dX10_laysGates_18 : decode cX10_laysGates 18 = .ok (.aload_n 0, 1) := by decide +kernel
theorem dX10_laysGates_19 : decode cX10_laysGates 19 = .ok (.getfield 32, 3) := by decide +kernel
theorem dX10_laysGates_22 : decode cX10_laysGates 22 = .ok (.iload_n 1, 1) := by decide +kernel
theorem dX10_laysGates_23 : decode cX10_laysGates 23 = .ok (.iconst 0, 1) := by decide +kernel
theorem dX10_laysGates_24 : decode cX10_laysGates 24 = .ok (.iastore, 1) := by decide +kernel
theorem dX10_laysGates_25 : decode cX10_laysGates 25 = .ok (.iinc 1 1, 3) := by decide +kernel
theorem dX10_laysGates_28 : decode cX10_laysGates 28 = .ok (.goto (-16), 3) := by decide +kernel
theorem dX10_laysGates_31 : decode cX10_laysGates 31 = .ok (.iconst 0, 1) := by decide +kernel
theorem dX10_laysGates_32 : decode cX10_laysGates 32 = .ok (.istore_n 1, 1) := by decide +kernel
theorem dX10_laysGates_33 : decode cX10_laysGates 33 = .ok (.iload_n 1, 1) := by decide +kernel
theorem dX10_laysGates_34 : decode cX10_laysGates 34 = .ok (.aload_n 0, 1) := by decide +kernel
theorem dX10_laysGates_35 : decode cX10_laysGates 35 = .ok (.invokevirtual 80, 3) := by decide +kernel
theorem dX10_laysGates_38 : decode cX10_laysGates 38 = .ok (.if_icmp .ge 66, 3) := by decide +kernel
theorem dX10_laysGates_41 : decode cX10_laysGates 41 = .ok (.aload_n 0, 1) := by decide +kernel
theorem dX10_laysGates_42 : decode cX10_laysGates 42 = .ok (.getfield 120, 3) := by decide +kernel
theorem dX10_laysGates_45 : decode cX10_laysGates 45 = .ok (.aload_n 0, 1) := by decide +kernel
theorem dX10_laysGates_46 : decode cX10_laysGates 46 = .ok (.iconst 1, 1) := by decide +kernel
theorem dX10_laysGates_47 : decode cX10_laysGates 47 = .ok (.iload_n 1, 1) := by decide +kernel
theorem dX10_laysGates_48 : decode cX10_laysGates 48 = .ok (.ishl, 1) := by decide +kernel
theorem dX10_laysGates_49 : decode cX10_laysGates 49 = .ok (.iconst (-1), 1) := by decide +kernel
theorem dX10_laysGates_50 : decode cX10_laysGates 50 = .ok (.invokevirtual 116, 3) := by decide +kernel
theorem dX10_laysGates_53 : decode cX10_laysGates 53 = .ok (.iconst (-1), 1) := by decide +kernel
theorem dX10_laysGates_54 : decode cX10_laysGates 54 = .ok (.ixor, 1) := by decide +kernel
theorem dX10_laysGates_55 : decode cX10_laysGates 55 = .ok (.iand, 1) := by decide +kernel
theorem dX10_laysGates_56 : decode cX10_laysGates 56 = .ok (.istore_n 2, 1) := by decide +kernel
theorem dX10_laysGates_57 : decode cX10_laysGates 57 = .ok (.iconst 0, 1) := by decide +kernel
theorem dX10_laysGates_58 : decode cX10_laysGates 58 = .ok (.istore_n 3, 1) := by decide +kernel
theorem dX10_laysGates_59 : decode cX10_laysGates 59 = .ok (.iload_n 3, 1) := by decide +kernel
theorem dX10_laysGates_60 : decode cX10_laysGates 60 = .ok (.aload_n 0, 1) := by decide +kernel
theorem dX10_laysGates_61 : decode cX10_laysGates 61 = .ok (.invokevirtual 80, 3) := by decide +kernel
theorem dX10_laysGates_64 : decode cX10_laysGates 64 = .ok (.if_icmp .ge 34, 3) := by decide +kernel
theorem dX10_laysGates_67 : decode cX10_laysGates 67 = .ok (.iload_n 3, 1) := by decide +kernel
theorem dX10_laysGates_68 : decode cX10_laysGates 68 = .ok (.iload_n 1, 1) := by decide +kernel
theorem dX10_laysGates_69 : decode cX10_laysGates 69 = .ok (.if_icmp .eq 23, 3) := by decide +kernel
theorem dX10_laysGates_72 : decode cX10_laysGates 72 = .ok (.iload_n 2, 1) := by decide +kernel
theorem dX10_laysGates_73 : decode cX10_laysGates 73 = .ok (.iload_n 3, 1) := by decide +kernel
theorem dX10_laysGates_74 : decode cX10_laysGates 74 = .ok (.invokestatic 99, 3) := by decide +kernel
theorem dX10_laysGates_77 : decode cX10_laysGates 77 = .ok (.ifCond .eq 15, 3) := by decide +kernel
theorem dX10_laysGates_80 : decode cX10_laysGates 80 = .ok (.aload_n 0, 1) := by decide +kernel
theorem dX10_laysGates_81 : decode cX10_laysGates 81 = .ok (.getfield 32, 3) := by decide +kernel
theorem dX10_laysGates_84 : decode cX10_laysGates 84 = .ok (.iload_n 3, 1) := by decide +kernel
theorem dX10_laysGates_85 : decode cX10_laysGates 85 = .ok (.dup2, 1) := by decide +kernel
theorem dX10_laysGates_86 : decode cX10_laysGates 86 = .ok (.iaload, 1) := by decide +kernel
theorem dX10_laysGates_87 : decode cX10_laysGates 87 = .ok (.iconst 1, 1) := by decide +kernel
theorem dX10_laysGates_88 : decode cX10_laysGates 88 = .ok (.iload_n 1, 1) := by decide +kernel
theorem dX10_laysGates_89 : decode cX10_laysGates 89 = .ok (.ishl, 1) := by decide +kernel
theorem dX10_laysGates_90 : decode cX10_laysGates 90 = .ok (.ior, 1) := by decide +kernel
theorem dX10_laysGates_91 : decode cX10_laysGates 91 = .ok (.iastore, 1) := by decide +kernel
theorem dX10_laysGates_92 : decode cX10_laysGates 92 = .ok (.iinc 3 1, 3) := by decide +kernel
theorem dX10_laysGates_95 : decode cX10_laysGates 95 = .ok (.goto (-36), 3) := by decide +kernel
theorem dX10_laysGates_98 : decode cX10_laysGates 98 = .ok (.iinc 1 1, 3) := by decide +kernel
theorem dX10_laysGates_101 : decode cX10_laysGates 101 = .ok (.goto (-68), 3) := by decide +kernel
theorem dX10_laysGates_104 : decode cX10_laysGates 104 = .ok (.iconst 0, 1) := by decide +kernel
theorem dX10_laysGates_105 : decode cX10_laysGates 105 = .ok (.istore_n 1, 1) := by decide +kernel
theorem dX10_laysGates_106 : decode cX10_laysGates 106 = .ok (.iload_n 1, 1) := by decide +kernel
theorem dX10_laysGates_107 : decode cX10_laysGates 107 = .ok (.bipush 16, 2) := by decide +kernel
theorem dX10_laysGates_109 : decode cX10_laysGates 109 = .ok (.if_icmp .ge 46, 3) := by decide +kernel
theorem dX10_laysGates_112 : decode cX10_laysGates 112 = .ok (.aload_n 0, 1) := by decide +kernel
theorem dX10_laysGates_113 : decode cX10_laysGates 113 = .ok (.getfield 35, 3) := by decide +kernel
theorem dX10_laysGates_116 : decode cX10_laysGates 116 = .ok (.iload_n 1, 1) := by decide +kernel
theorem dX10_laysGates_117 : decode cX10_laysGates 117 = .ok (.aload_n 0, 1) := by decide +kernel
theorem dX10_laysGates_118 : decode cX10_laysGates 118 = .ok (.getfield 120, 3) := by decide +kernel
theorem dX10_laysGates_121 : decode cX10_laysGates 121 = .ok (.iload_n 1, 1) := by decide +kernel
theorem dX10_laysGates_122 : decode cX10_laysGates 122 = .ok (.invokestatic 99, 3) := by decide +kernel
theorem dX10_laysGates_125 : decode cX10_laysGates 125 = .ok (.ifCond .eq 15, 3) := by decide +kernel
theorem dX10_laysGates_128 : decode cX10_laysGates 128 = .ok (.aload_n 0, 1) := by decide +kernel
theorem dX10_laysGates_129 : decode cX10_laysGates 129 = .ok (.getfield 32, 3) := by decide +kernel
theorem dX10_laysGates_132 : decode cX10_laysGates 132 = .ok (.iload_n 1, 1) := by decide +kernel
theorem dX10_laysGates_133 : decode cX10_laysGates 133 = .ok (.iaload, 1) := by decide +kernel
theorem dX10_laysGates_134 : decode cX10_laysGates 134 = .ok (.invokestatic 123, 3) := by decide +kernel
theorem dX10_laysGates_137 : decode cX10_laysGates 137 = .ok (.goto 4, 3) := by decide +kernel
theorem dX10_laysGates_140 : decode cX10_laysGates 140 = .ok (.iconst (-1), 1) := by decide +kernel
theorem dX10_laysGates_141 : decode cX10_laysGates 141 = .ok (.iastore, 1) := by decide +kernel
theorem dX10_laysGates_142 : decode cX10_laysGates 142 = .ok (.aload_n 0, 1) := by decide +kernel
theorem dX10_laysGates_143 : decode cX10_laysGates 143 = .ok (.getfield 38, 3) := by decide +kernel
theorem dX10_laysGates_146 : decode cX10_laysGates 146 = .ok (.iload_n 1, 1) := by decide +kernel
theorem dX10_laysGates_147 : decode cX10_laysGates 147 = .ok (.iconst (-1), 1) := by decide +kernel
theorem dX10_laysGates_148 : decode cX10_laysGates 148 = .ok (.iastore, 1) := by decide +kernel
theorem dX10_laysGates_149 : decode cX10_laysGates 149 = .ok (.iinc 1 1, 3) := by decide +kernel
theorem dX10_laysGates_152 : decode cX10_laysGates 152 = .ok (.goto (-46), 3) := by decide +kernel
theorem dX10_laysGates_155 : decode cX10_laysGates 155 = .ok (.iconst 0, 1) := by decide +kernel
theorem dX10_laysGates_156 : decode cX10_laysGates 156 = .ok (.istore_n 1, 1) := by decide +kernel
theorem dX10_laysGates_157 : decode cX10_laysGates 157 = .ok (.iload_n 1, 1) := by decide +kernel
theorem dX10_laysGates_158 : decode cX10_laysGates 158 = .ok (.aload_n 0, 1) := by decide +kernel
theorem dX10_laysGates_159 : decode cX10_laysGates 159 = .ok (.invokevirtual 80, 3) := by decide +kernel
theorem dX10_laysGates_162 : decode cX10_laysGates 162 = .ok (.if_icmp .ge 62, 3) := by decide +kernel
theorem dX10_laysGates_165 : decode cX10_laysGates 165 = .ok (.iconst 0, 1) := by decide +kernel
theorem dX10_laysGates_166 : decode cX10_laysGates 166 = .ok (.istore_n 2, 1) := by decide +kernel
theorem dX10_laysGates_167 : decode cX10_laysGates 167 = .ok (.iload_n 2, 1) := by decide +kernel
theorem dX10_laysGates_168 : decode cX10_laysGates 168 = .ok (.aload_n 0, 1) := by decide +kernel
theorem dX10_laysGates_169 : decode cX10_laysGates 169 = .ok (.invokevirtual 80, 3) := by decide +kernel
theorem dX10_laysGates_172 : decode cX10_laysGates 172 = .ok (.if_icmp .ge 46, 3) := by decide +kernel
theorem dX10_laysGates_175 : decode cX10_laysGates 175 = .ok (.aload_n 0, 1) := by decide +kernel
theorem dX10_laysGates_176 : decode cX10_laysGates 176 = .ok (.getfield 32, 3) := by decide +kernel
theorem dX10_laysGates_179 : decode cX10_laysGates 179 = .ok (.iload_n 1, 1) := by decide +kernel
theorem dX10_laysGates_180 : decode cX10_laysGates 180 = .ok (.iaload, 1) := by decide +kernel
theorem dX10_laysGates_181 : decode cX10_laysGates 181 = .ok (.iload_n 2, 1) := by decide +kernel
theorem dX10_laysGates_182 : decode cX10_laysGates 182 = .ok (.invokestatic 99, 3) := by decide +kernel
theorem dX10_laysGates_185 : decode cX10_laysGates 185 = .ok (.ifCond .eq 27, 3) := by decide +kernel
theorem dX10_laysGates_188 : decode cX10_laysGates 188 = .ok (.aload_n 0, 1) := by decide +kernel
theorem dX10_laysGates_189 : decode cX10_laysGates 189 = .ok (.getfield 35, 3) := by decide +kernel
theorem dX10_laysGates_192 : decode cX10_laysGates 192 = .ok (.iload_n 2, 1) := by decide +kernel
theorem dX10_laysGates_193 : decode cX10_laysGates 193 = .ok (.iaload, 1) := by decide +kernel
theorem dX10_laysGates_194 : decode cX10_laysGates 194 = .ok (.aload_n 0, 1) := by decide +kernel
theorem dX10_laysGates_195 : decode cX10_laysGates 195 = .ok (.getfield 35, 3) := by decide +kernel
theorem dX10_laysGates_198 : decode cX10_laysGates 198 = .ok (.iload_n 1, 1) := by decide +kernel
theorem dX10_laysGates_199 : decode cX10_laysGates 199 = .ok (.iaload, 1) := by decide +kernel
theorem dX10_laysGates_200 : decode cX10_laysGates 200 = .ok (.iconst 1, 1) := by decide +kernel
theorem dX10_laysGates_201 : decode cX10_laysGates 201 = .ok (.isub, 1) := by decide +kernel
theorem dX10_laysGates_202 : decode cX10_laysGates 202 = .ok (.if_icmp .ne 10, 3) := by decide +kernel
theorem dX10_laysGates_205 : decode cX10_laysGates 205 = .ok (.aload_n 0, 1) := by decide +kernel
theorem dX10_laysGates_206 : decode cX10_laysGates 206 = .ok (.getfield 38, 3) := by decide +kernel
theorem dX10_laysGates_209 : decode cX10_laysGates 209 = .ok (.iload_n 1, 1) := by decide +kernel
theorem dX10_laysGates_210 : decode cX10_laysGates 210 = .ok (.iload_n 2, 1) := by decide +kernel
theorem dX10_laysGates_211 : decode cX10_laysGates 211 = .ok (.iastore, 1) := by decide +kernel
theorem dX10_laysGates_212 : decode cX10_laysGates 212 = .ok (.iinc 2 1, 3) := by decide +kernel
theorem dX10_laysGates_215 : decode cX10_laysGates 215 = .ok (.goto (-48), 3) := by decide +kernel
theorem dX10_laysGates_218 : decode cX10_laysGates 218 = .ok (.iinc 1 1, 3) := by decide +kernel
theorem dX10_laysGates_221 : decode cX10_laysGates 221 = .ok (.goto (-64), 3) := by decide +kernel
theorem dX10_laysGates_224 : decode cX10_laysGates 224 = .ok (.return_, 1) := by decide +kernel
theorem dX10_keepsOne_0 : decode cX10_keepsOne 0 = .ok (.aload_n 0, 1) := by decide +kernel
theorem dX10_keepsOne_1 : decode cX10_keepsOne 1 = .ok (.getfield 32, 3) := by decide +kernel
theorem dX10_keepsOne_4 : decode cX10_keepsOne 4 = .ok (.iload_n 2, 1) := by decide +kernel
theorem dX10_keepsOne_5 : decode cX10_keepsOne 5 = .ok (.iaload, 1) := by decide +kernel
theorem dX10_keepsOne_6 : decode cX10_keepsOne 6 = .ok (.iload_n 1, 1) := by decide +kernel
theorem dX10_keepsOne_7 : decode cX10_keepsOne 7 = .ok (.invokestatic 99, 3) := by decide +kernel
theorem dX10_keepsOne_10 : decode cX10_keepsOne 10 = .ok (.ireturn, 1) := by decide +kernel
theorem dX10_keptBy_0 : decode cX10_keptBy 0 = .ok (.iconst 0, 1) := by decide +kernel
theorem dX10_keptBy_1 : decode cX10_keptBy 1 = .ok (.istore_n 2, 1) := by decide +kernel
theorem dX10_keptBy_2 : decode cX10_keptBy 2 = .ok (.iconst 0, 1) := by decide +kernel
theorem dX10_keptBy_3 : decode cX10_keptBy 3 = .ok (.istore_n 3, 1) := by decide +kernel
theorem dX10_keptBy_4 : decode cX10_keptBy 4 = .ok (.iload_n 3, 1) := by decide +kernel
theorem dX10_keptBy_5 : decode cX10_keptBy 5 = .ok (.aload_n 0, 1) := by decide +kernel
theorem dX10_keptBy_6 : decode cX10_keptBy 6 = .ok (.invokevirtual 80, 3) := by decide +kernel
theorem dX10_keptBy_9 : decode cX10_keptBy 9 = .ok (.if_icmp .ge 32, 3) := by decide +kernel
theorem dX10_keptBy_12 : decode cX10_keptBy 12 = .ok (.iload_n 2, 1) := by decide +kernel
theorem dX10_keptBy_13 : decode cX10_keptBy 13 = .ok (.aload_n 0, 1) := by decide +kernel
theorem dX10_keptBy_14 : decode cX10_keptBy 14 = .ok (.getfield 32, 3) := by decide +kernel
theorem dX10_keptBy_17 : decode cX10_keptBy 17 = .ok (.iload_n 3, 1) := by decide +kernel
theorem dX10_keptBy_18 : decode cX10_keptBy 18 = .ok (.iaload, 1) := by decide +kernel
theorem dX10_keptBy_19 : decode cX10_keptBy 19 = .ok (.iload_n 1, 1) := by decide +kernel
theorem dX10_keptBy_20 : decode cX10_keptBy 20 = .ok (.invokestatic 99, 3) := by decide +kernel
theorem dX10_keptBy_23 : decode cX10_keptBy 23 = .ok (.ifCond .eq 9, 3) := by decide +kernel
theorem dX10_keptBy_26 : decode cX10_keptBy 26 = .ok (.iconst 1, 1) := by decide +kernel
theorem dX10_keptBy_27 : decode cX10_keptBy 27 = .ok (.iload_n 3, 1) := by decide +kernel
theorem dX10_keptBy_28 : decode cX10_keptBy 28 = .ok (.ishl, 1) := by decide +kernel
theorem dX10_keptBy_29 : decode cX10_keptBy 29 = .ok (.goto 4, 3) := by decide +kernel
theorem dX10_keptBy_32 : decode cX10_keptBy 32 = .ok (.iconst 0, 1) := by decide +kernel
theorem dX10_keptBy_33 : decode cX10_keptBy 33 = .ok (.ior, 1) := by decide +kernel
theorem dX10_keptBy_34 : decode cX10_keptBy 34 = .ok (.istore_n 2, 1) := by decide +kernel
theorem dX10_keptBy_35 : decode cX10_keptBy 35 = .ok (.iinc 3 1, 3) := by decide +kernel
theorem dX10_keptBy_38 : decode cX10_keptBy 38 = .ok (.goto (-34), 3) := by decide +kernel
theorem dX10_keptBy_41 : decode cX10_keptBy 41 = .ok (.iload_n 2, 1) := by decide +kernel
theorem dX10_keptBy_42 : decode cX10_keptBy 42 = .ok (.ireturn, 1) := by decide +kernel
theorem dX10_notes_0 : decode cX10_notes 0 = .ok (.aload_n 0, 1) := by decide +kernel
theorem dX10_notes_1 : decode cX10_notes 1 = .ok (.invokevirtual 126, 3) := by decide +kernel
theorem dX10_notes_4 : decode cX10_notes 4 = .ok (.aload_n 0, 1) := by decide +kernel
theorem dX10_notes_5 : decode cX10_notes 5 = .ok (.aload_n 0, 1) := by decide +kernel
theorem dX10_notes_6 : decode cX10_notes 6 = .ok (.getfield 120, 3) := by decide +kernel
theorem dX10_notes_9 : decode cX10_notes 9 = .ok (.putfield 129, 3) := by decide +kernel
theorem dX10_notes_12 : decode cX10_notes 12 = .ok (.iconst 0, 1) := by decide +kernel
theorem dX10_notes_13 : decode cX10_notes 13 = .ok (.istore_n 1, 1) := by decide +kernel
theorem dX10_notes_14 : decode cX10_notes 14 = .ok (.iload_n 1, 1) := by decide +kernel
theorem dX10_notes_15 : decode cX10_notes 15 = .ok (.bipush 16, 2) := by decide +kernel
theorem dX10_notes_17 : decode cX10_notes 17 = .ok (.if_icmp .ge 33, 3) := by decide +kernel
theorem dX10_notes_20 : decode cX10_notes 20 = .ok (.aload_n 0, 1) := by decide +kernel
theorem dX10_notes_21 : decode cX10_notes 21 = .ok (.getfield 41, 3) := by decide +kernel
theorem dX10_notes_24 : decode cX10_notes 24 = .ok (.iload_n 1, 1) := by decide +kernel
theorem dX10_notes_25 : decode cX10_notes 25 = .ok (.aload_n 0, 1) := by decide +kernel
theorem dX10_notes_26 : decode cX10_notes 26 = .ok (.getfield 35, 3) := by decide +kernel
theorem dX10_notes_29 : decode cX10_notes 29 = .ok (.iload_n 1, 1) := by decide +kernel
theorem dX10_notes_30 : decode cX10_notes 30 = .ok (.iaload, 1) := by decide +kernel
theorem dX10_notes_31 : decode cX10_notes 31 = .ok (.iastore, 1) := by decide +kernel
theorem dX10_notes_32 : decode cX10_notes 32 = .ok (.aload_n 0, 1) := by decide +kernel
theorem dX10_notes_33 : decode cX10_notes 33 = .ok (.getfield 44, 3) := by decide +kernel
theorem dX10_notes_36 : decode cX10_notes 36 = .ok (.iload_n 1, 1) := by decide +kernel
theorem dX10_notes_37 : decode cX10_notes 37 = .ok (.aload_n 0, 1) := by decide +kernel
theorem dX10_notes_38 : decode cX10_notes 38 = .ok (.getfield 38, 3) := by decide +kernel
theorem dX10_notes_41 : decode cX10_notes 41 = .ok (.iload_n 1, 1) := by decide +kernel
theorem dX10_notes_42 : decode cX10_notes 42 = .ok (.iaload, 1) := by decide +kernel
theorem dX10_notes_43 : decode cX10_notes 43 = .ok (.iastore, 1) := by decide +kernel
theorem dX10_notes_44 : decode cX10_notes 44 = .ok (.iinc 1 1, 3) := by decide +kernel
theorem dX10_notes_47 : decode cX10_notes 47 = .ok (.goto (-33), 3) := by decide +kernel
theorem dX10_notes_50 : decode cX10_notes 50 = .ok (.return_, 1) := by decide +kernel
theorem dX10_holdsAgainst_0 : decode cX10_holdsAgainst 0 = .ok (.aload_n 0, 1) := by decide +kernel
theorem dX10_holdsAgainst_1 : decode cX10_holdsAgainst 1 = .ok (.invokevirtual 126, 3) := by decide +kernel
theorem dX10_holdsAgainst_4 : decode cX10_holdsAgainst 4 = .ok (.aload_n 0, 1) := by decide +kernel
theorem dX10_holdsAgainst_5 : decode cX10_holdsAgainst 5 = .ok (.aload_n 0, 1) := by decide +kernel
theorem dX10_holdsAgainst_6 : decode cX10_holdsAgainst 6 = .ok (.getfield 120, 3) := by decide +kernel
theorem dX10_holdsAgainst_9 : decode cX10_holdsAgainst 9 = .ok (.aload_n 0, 1) := by decide +kernel
theorem dX10_holdsAgainst_10 : decode cX10_holdsAgainst 10 = .ok (.getfield 129, 3) := by decide +kernel
theorem dX10_holdsAgainst_13 : decode cX10_holdsAgainst 13 = .ok (.iconst (-1), 1) := by decide +kernel
theorem dX10_holdsAgainst_14 : decode cX10_holdsAgainst 14 = .ok (.ixor, 1) := by decide +kernel
theorem dX10_holdsAgainst_15 : decode cX10_holdsAgainst 15 = .ok (.iand, 1) := by decide +kernel
theorem dX10_holdsAgainst_16 : decode cX10_holdsAgainst 16 = .ok (.putfield 132, 3) := by decide +kernel
theorem dX10_holdsAgainst_19 : decode cX10_holdsAgainst 19 = .ok (.aload_n 0, 1) := by decide +kernel
theorem dX10_holdsAgainst_20 : decode cX10_holdsAgainst 20 = .ok (.aload_n 0, 1) := by decide +kernel
theorem dX10_holdsAgainst_21 : decode cX10_holdsAgainst 21 = .ok (.getfield 129, 3) := by decide +kernel
theorem dX10_holdsAgainst_24 : decode cX10_holdsAgainst 24 = .ok (.aload_n 0, 1) := by decide +kernel
theorem dX10_holdsAgainst_25 : decode cX10_holdsAgainst 25 = .ok (.getfield 120, 3) := by decide +kernel
theorem dX10_holdsAgainst_28 : decode cX10_holdsAgainst 28 = .ok (.iconst (-1), 1) := by decide +kernel
theorem dX10_holdsAgainst_29 : decode cX10_holdsAgainst 29 = .ok (.ixor, 1) := by decide +kernel
theorem dX10_holdsAgainst_30 : decode cX10_holdsAgainst 30 = .ok (.iand, 1) := by decide +kernel
theorem dX10_holdsAgainst_31 : decode cX10_holdsAgainst 31 = .ok (.putfield 135, 3) := by decide +kernel
theorem dX10_holdsAgainst_34 : decode cX10_holdsAgainst 34 = .ok (.aload_n 0, 1) := by decide +kernel
theorem dX10_holdsAgainst_35 : decode cX10_holdsAgainst 35 = .ok (.iconst 0, 1) := by decide +kernel
theorem dX10_holdsAgainst_36 : decode cX10_holdsAgainst 36 = .ok (.putfield 138, 3) := by decide +kernel
theorem dX10_holdsAgainst_39 : decode cX10_holdsAgainst 39 = .ok (.aload_n 0, 1) := by decide +kernel
theorem dX10_holdsAgainst_40 : decode cX10_holdsAgainst 40 = .ok (.iconst 0, 1) := by decide +kernel
theorem dX10_holdsAgainst_41 : decode cX10_holdsAgainst 41 = .ok (.putfield 141, 3) := by decide +kernel
theorem dX10_holdsAgainst_44 : decode cX10_holdsAgainst 44 = .ok (.iconst 0, 1) := by decide +kernel
theorem dX10_holdsAgainst_45 : decode cX10_holdsAgainst 45 = .ok (.istore_n 1, 1) := by decide +kernel
theorem dX10_holdsAgainst_46 : decode cX10_holdsAgainst 46 = .ok (.iload_n 1, 1) := by decide +kernel
theorem dX10_holdsAgainst_47 : decode cX10_holdsAgainst 47 = .ok (.aload_n 0, 1) := by decide +kernel
theorem dX10_holdsAgainst_48 : decode cX10_holdsAgainst 48 = .ok (.invokevirtual 80, 3) := by decide +kernel
theorem dX10_holdsAgainst_51 : decode cX10_holdsAgainst 51 = .ok (.if_icmp .ge 81, 3) := by decide +kernel
theorem dX10_holdsAgainst_54 : decode cX10_holdsAgainst 54 = .ok (.aload_n 0, 1) := by decide +kernel
theorem dX10_holdsAgainst_55 : decode cX10_holdsAgainst 55 = .ok (.getfield 120, 3) := by decide +kernel
theorem dX10_holdsAgainst_58 : decode cX10_holdsAgainst 58 = .ok (.aload_n 0, 1) := by decide +kernel
theorem dX10_holdsAgainst_59 : decode cX10_holdsAgainst 59 = .ok (.getfield 129, 3) := by decide +kernel
theorem dX10_holdsAgainst_62 : decode cX10_holdsAgainst 62 = .ok (.iand, 1) := by decide +kernel
theorem dX10_holdsAgainst_63 : decode cX10_holdsAgainst 63 = .ok (.iload_n 1, 1) := by decide +kernel
theorem dX10_holdsAgainst_64 : decode cX10_holdsAgainst 64 = .ok (.invokestatic 99, 3) := by decide +kernel
theorem dX10_holdsAgainst_67 : decode cX10_holdsAgainst 67 = .ok (.ifCond .ne 6, 3) := by decide +kernel
theorem dX10_holdsAgainst_70 : decode cX10_holdsAgainst 70 = .ok (.goto 56, 3) := by decide +kernel
theorem dX10_holdsAgainst_73 : decode cX10_holdsAgainst 73 = .ok (.aload_n 0, 1) := by decide +kernel
theorem dX10_holdsAgainst_74 : decode cX10_holdsAgainst 74 = .ok (.dup, 1) := by decide +kernel
theorem dX10_holdsAgainst_75 : decode cX10_holdsAgainst 75 = .ok (.getfield 138, 3) := by decide +kernel
theorem dX10_holdsAgainst_78 : decode cX10_holdsAgainst 78 = .ok (.aload_n 0, 1) := by decide +kernel
theorem dX10_holdsAgainst_79 : decode cX10_holdsAgainst 79 = .ok (.getfield 38, 3) := by decide +kernel
theorem dX10_holdsAgainst_82 : decode cX10_holdsAgainst 82 = .ok (.iload_n 1, 1) := by decide +kernel
theorem dX10_holdsAgainst_83 : decode cX10_holdsAgainst 83 = .ok (.iaload, 1) := by decide +kernel
theorem dX10_holdsAgainst_84 : decode cX10_holdsAgainst 84 = .ok (.aload_n 0, 1) := by decide +kernel
theorem dX10_holdsAgainst_85 : decode cX10_holdsAgainst 85 = .ok (.getfield 44, 3) := by decide +kernel
theorem dX10_holdsAgainst_88 : decode cX10_holdsAgainst 88 = .ok (.iload_n 1, 1) := by decide +kernel
theorem dX10_holdsAgainst_89 : decode cX10_holdsAgainst 89 = .ok (.iaload, 1) := by decide +kernel
theorem dX10_holdsAgainst_90 : decode cX10_holdsAgainst 90 = .ok (.if_icmp .ne 7, 3) := by decide +kernel
theorem dX10_holdsAgainst_93 : decode cX10_holdsAgainst 93 = .ok (.iconst 0, 1) := by decide +kernel
theorem dX10_holdsAgainst_94 : decode cX10_holdsAgainst 94 = .ok (.goto 6, 3) := by decide +kernel
theorem dX10_holdsAgainst_97 : decode cX10_holdsAgainst 97 = .ok (.iconst 1, 1) := by decide +kernel
theorem dX10_holdsAgainst_98 : decode cX10_holdsAgainst 98 = .ok (.iload_n 1, 1) := by decide +kernel
theorem dX10_holdsAgainst_99 : decode cX10_holdsAgainst 99 = .ok (.ishl, 1) := by decide +kernel
theorem dX10_holdsAgainst_100 : decode cX10_holdsAgainst 100 = .ok (.ior, 1) := by decide +kernel
theorem dX10_holdsAgainst_101 : decode cX10_holdsAgainst 101 = .ok (.putfield 138, 3) := by decide +kernel
theorem dX10_holdsAgainst_104 : decode cX10_holdsAgainst 104 = .ok (.aload_n 0, 1) := by decide +kernel
theorem dX10_holdsAgainst_105 : decode cX10_holdsAgainst 105 = .ok (.dup, 1) := by decide +kernel
theorem dX10_holdsAgainst_106 : decode cX10_holdsAgainst 106 = .ok (.getfield 141, 3) := by decide +kernel
theorem dX10_holdsAgainst_109 : decode cX10_holdsAgainst 109 = .ok (.aload_n 0, 1) := by decide +kernel
theorem dX10_holdsAgainst_110 : decode cX10_holdsAgainst 110 = .ok (.getfield 41, 3) := by decide +kernel
theorem dX10_holdsAgainst_113 : decode cX10_holdsAgainst 113 = .ok (.iload_n 1, 1) := by decide +kernel
theorem dX10_holdsAgainst_114 : decode cX10_holdsAgainst 114 = .ok (.iaload, 1) := by decide +kernel
theorem dX10_holdsAgainst_115 : decode cX10_holdsAgainst 115 = .ok (.aload_n 0, 1) := by decide +kernel
theorem dX10_holdsAgainst_116 : decode cX10_holdsAgainst 116 = .ok (.getfield 35, 3) := by decide +kernel
theorem dX10_holdsAgainst_119 : decode cX10_holdsAgainst 119 = .ok (.iload_n 1, 1) := by decide +kernel
theorem dX10_holdsAgainst_120 : decode cX10_holdsAgainst 120 = .ok (.iaload, 1) := by decide +kernel
theorem dX10_holdsAgainst_121 : decode cX10_holdsAgainst 121 = .ok (.isub, 1) := by decide +kernel
theorem dX10_holdsAgainst_122 : decode cX10_holdsAgainst 122 = .ok (.iadd, 1) := by decide +kernel
theorem dX10_holdsAgainst_123 : decode cX10_holdsAgainst 123 = .ok (.putfield 141, 3) := by decide +kernel
theorem dX10_holdsAgainst_126 : decode cX10_holdsAgainst 126 = .ok (.iinc 1 1, 3) := by decide +kernel
theorem dX10_holdsAgainst_129 : decode cX10_holdsAgainst 129 = .ok (.goto (-83), 3) := by decide +kernel
theorem dX10_holdsAgainst_132 : decode cX10_holdsAgainst 132 = .ok (.return_, 1) := by decide +kernel
theorem dX10_hasNoLatest_0 : decode cX10_hasNoLatest 0 = .ok (.aload_n 0, 1) := by decide +kernel
theorem dX10_hasNoLatest_1 : decode cX10_hasNoLatest 1 = .ok (.iconst 0, 1) := by decide +kernel
theorem dX10_hasNoLatest_2 : decode cX10_hasNoLatest 2 = .ok (.putfield 132, 3) := by decide +kernel
theorem dX10_hasNoLatest_5 : decode cX10_hasNoLatest 5 = .ok (.aload_n 0, 1) := by decide +kernel
theorem dX10_hasNoLatest_6 : decode cX10_hasNoLatest 6 = .ok (.iconst 0, 1) := by decide +kernel
theorem dX10_hasNoLatest_7 : decode cX10_hasNoLatest 7 = .ok (.putfield 135, 3) := by decide +kernel
theorem dX10_hasNoLatest_10 : decode cX10_hasNoLatest 10 = .ok (.aload_n 0, 1) := by decide +kernel
theorem dX10_hasNoLatest_11 : decode cX10_hasNoLatest 11 = .ok (.iconst 0, 1) := by decide +kernel
theorem dX10_hasNoLatest_12 : decode cX10_hasNoLatest 12 = .ok (.putfield 138, 3) := by decide +kernel
theorem dX10_hasNoLatest_15 : decode cX10_hasNoLatest 15 = .ok (.aload_n 0, 1) := by decide +kernel
theorem dX10_hasNoLatest_16 : decode cX10_hasNoLatest 16 = .ok (.iconst 0, 1) := by decide +kernel
theorem dX10_hasNoLatest_17 : decode cX10_hasNoLatest 17 = .ok (.putfield 141, 3) := by decide +kernel
theorem dX10_hasNoLatest_20 : decode cX10_hasNoLatest 20 = .ok (.return_, 1) := by decide +kernel
theorem dX10_remembers_0 : decode cX10_remembers 0 = .ok (.aload_n 0, 1) := by decide +kernel
theorem dX10_remembers_1 : decode cX10_remembers 1 = .ok (.getfield 144, 3) := by decide +kernel
theorem dX10_remembers_4 : decode cX10_remembers 4 = .ok (.bipush 8, 2) := by decide +kernel
theorem dX10_remembers_6 : decode cX10_remembers 6 = .ok (.if_icmp .ne 50, 3) := by decide +kernel
theorem dX10_remembers_9 : decode cX10_remembers 9 = .ok (.iconst 1, 1) := by decide +kernel
theorem dX10_remembers_10 : decode cX10_remembers 10 = .ok (.istore_n 1, 1) := by decide +kernel
theorem dX10_remembers_11 : decode cX10_remembers 11 = .ok (.iload_n 1, 1) := by decide +kernel
theorem dX10_remembers_12 : decode cX10_remembers 12 = .ok (.bipush 8, 2) := by decide +kernel
theorem dX10_remembers_14 : decode cX10_remembers 14 = .ok (.if_icmp .ge 32, 3) := by decide +kernel
theorem dX10_remembers_17 : decode cX10_remembers 17 = .ok (.aload_n 0, 1) := by decide +kernel
theorem dX10_remembers_18 : decode cX10_remembers 18 = .ok (.getfield 23, 3) := by decide +kernel
theorem dX10_remembers_21 : decode cX10_remembers 21 = .ok (.sipush 200, 3) := by decide +kernel
theorem dX10_remembers_24 : decode cX10_remembers 24 = .ok (.iload_n 1, 1) := by decide +kernel
theorem dX10_remembers_25 : decode cX10_remembers 25 = .ok (.imul, 1) := by decide +kernel
theorem dX10_remembers_26 : decode cX10_remembers 26 = .ok (.aload_n 0, 1) := by decide +kernel
theorem dX10_remembers_27 : decode cX10_remembers 27 = .ok (.getfield 23, 3) := by decide +kernel
theorem dX10_remembers_30 : decode cX10_remembers 30 = .ok (.sipush 200, 3) := by decide +kernel
theorem dX10_remembers_33 : decode cX10_remembers 33 = .ok (.iload_n 1, 1) := by decide +kernel
theorem dX10_remembers_34 : decode cX10_remembers 34 = .ok (.iconst 1, 1) := by decide +kernel
theorem dX10_remembers_35 : decode cX10_remembers 35 = .ok (.isub, 1) := by decide +kernel
theorem dX10_remembers_36 : decode cX10_remembers 36 = .ok (.imul, 1) := by decide +kernel
theorem dX10_remembers_37 : decode cX10_remembers 37 = .ok (.invokestatic 147, 3) := by decide +kernel
theorem dX10_remembers_40 : decode cX10_remembers 40 = .ok (.iinc 1 1, 3) := by decide +kernel
theorem dX10_remembers_43 : decode cX10_remembers 43 = .ok (.goto (-32), 3) := by decide +kernel
theorem dX10_remembers_46 : decode cX10_remembers 46 = .ok (.aload_n 0, 1) := by decide +kernel
theorem dX10_remembers_47 : decode cX10_remembers 47 = .ok (.dup, 1) := by decide +kernel
theorem dX10_remembers_48 : decode cX10_remembers 48 = .ok (.getfield 144, 3) := by decide +kernel
theorem dX10_remembers_51 : decode cX10_remembers 51 = .ok (.iconst 1, 1) := by decide +kernel
theorem dX10_remembers_52 : decode cX10_remembers 52 = .ok (.isub, 1) := by decide +kernel
theorem dX10_remembers_53 : decode cX10_remembers 53 = .ok (.putfield 144, 3) := by decide +kernel
theorem dX10_remembers_56 : decode cX10_remembers 56 = .ok (.aload_n 0, 1) := by decide +kernel
theorem dX10_remembers_57 : decode cX10_remembers 57 = .ok (.getfield 13, 3) := by decide +kernel
theorem dX10_remembers_60 : decode cX10_remembers 60 = .ok (.iconst 0, 1) := by decide +kernel
theorem dX10_remembers_61 : decode cX10_remembers 61 = .ok (.aload_n 0, 1) := by decide +kernel
theorem dX10_remembers_62 : decode cX10_remembers 62 = .ok (.getfield 23, 3) := by decide +kernel
theorem dX10_remembers_65 : decode cX10_remembers 65 = .ok (.sipush 200, 3) := by decide +kernel
theorem dX10_remembers_68 : decode cX10_remembers 68 = .ok (.aload_n 0, 1) := by decide +kernel
theorem dX10_remembers_69 : decode cX10_remembers 69 = .ok (.getfield 144, 3) := by decide +kernel
theorem dX10_remembers_72 : decode cX10_remembers 72 = .ok (.imul, 1) := by decide +kernel
theorem dX10_remembers_73 : decode cX10_remembers 73 = .ok (.invokestatic 147, 3) := by decide +kernel
theorem dX10_remembers_76 : decode cX10_remembers 76 = .ok (.aload_n 0, 1) := by decide +kernel
theorem dX10_remembers_77 : decode cX10_remembers 77 = .ok (.dup, 1) := by decide +kernel
theorem dX10_remembers_78 : decode cX10_remembers 78 = .ok (.getfield 144, 3) := by decide +kernel
theorem dX10_remembers_81 : decode cX10_remembers 81 = .ok (.iconst 1, 1) := by decide +kernel
theorem dX10_remembers_82 : decode cX10_remembers 82 = .ok (.iadd, 1) := by decide +kernel
theorem dX10_remembers_83 : decode cX10_remembers 83 = .ok (.putfield 144, 3) := by decide +kernel
theorem dX10_remembers_86 : decode cX10_remembers 86 = .ok (.aload_n 0, 1) := by decide +kernel
theorem dX10_remembers_87 : decode cX10_remembers 87 = .ok (.invokevirtual 151, 3) := by decide +kernel
theorem dX10_remembers_90 : decode cX10_remembers 90 = .ok (.return_, 1) := by decide +kernel
theorem dX10_isRefused_0 : decode cX10_isRefused 0 = .ok (.aload_n 0, 1) := by decide +kernel
theorem dX10_isRefused_1 : decode cX10_isRefused 1 = .ok (.iload_n 1, 1) := by decide +kernel
theorem dX10_isRefused_2 : decode cX10_isRefused 2 = .ok (.putfield 154, 3) := by decide +kernel
theorem dX10_isRefused_5 : decode cX10_isRefused 5 = .ok (.aload_n 0, 1) := by decide +kernel
theorem dX10_isRefused_6 : decode cX10_isRefused 6 = .ok (.iload_n 1, 1) := by decide +kernel
theorem dX10_isRefused_7 : decode cX10_isRefused 7 = .ok (.ifCond .le 7, 3) := by decide +kernel
theorem dX10_isRefused_10 : decode cX10_isRefused 10 = .ok (.iconst 1, 1) := by decide +kernel
theorem dX10_isRefused_11 : decode cX10_isRefused 11 = .ok (.goto 4, 3) := by decide +kernel
theorem dX10_isRefused_14 : decode cX10_isRefused 14 = .ok (.iconst 0, 1) := by decide +kernel
theorem dX10_isRefused_15 : decode cX10_isRefused 15 = .ok (.iload_n 2, 1) := by decide +kernel
theorem dX10_isRefused_16 : decode cX10_isRefused 16 = .ok (.invokevirtual 157, 3) := by decide +kernel
theorem dX10_isRefused_19 : decode cX10_isRefused 19 = .ok (.ifCond .eq 5, 3) := by decide +kernel
theorem dX10_isRefused_22 : decode cX10_isRefused 22 = .ok (.iconst 1, 1) := by decide +kernel
theorem dX10_isRefused_23 : decode cX10_isRefused 23 = .ok (.ireturn, 1) := by decide +kernel
theorem dX10_isRefused_24 : decode cX10_isRefused 24 = .ok (.aload_n 0, 1) := by decide +kernel
theorem dX10_isRefused_25 : decode cX10_isRefused 25 = .ok (.invokevirtual 161, 3) := by decide +kernel
theorem dX10_isRefused_28 : decode cX10_isRefused 28 = .ok (.iconst 0, 1) := by decide +kernel
theorem dX10_isRefused_29 : decode cX10_isRefused 29 = .ok (.ireturn, 1) := by decide +kernel
theorem dX10_undo_0 : decode cX10_undo 0 = .ok (.aload_n 0, 1) := by decide +kernel
theorem dX10_undo_1 : decode cX10_undo 1 = .ok (.iconst 0, 1) := by decide +kernel
theorem dX10_undo_2 : decode cX10_undo 2 = .ok (.putfield 1, 3) := by decide +kernel
theorem dX10_undo_5 : decode cX10_undo 5 = .ok (.aload_n 0, 1) := by decide +kernel
theorem dX10_undo_6 : decode cX10_undo 6 = .ok (.aload_n 0, 1) := by decide +kernel
theorem dX10_undo_7 : decode cX10_undo 7 = .ok (.getfield 144, 3) := by decide +kernel
theorem dX10_undo_10 : decode cX10_undo 10 = .ok (.ifCond .ne 7, 3) := by decide +kernel
theorem dX10_undo_13 : decode cX10_undo 13 = .ok (.iconst 1, 1) := by decide +kernel
theorem dX10_undo_14 : decode cX10_undo 14 = .ok (.goto 4, 3) := by decide +kernel
theorem dX10_undo_17 : decode cX10_undo 17 = .ok (.iconst 0, 1) := by decide +kernel
theorem dX10_undo_18 : decode cX10_undo 18 = .ok (.iconst 1, 1) := by decide +kernel
theorem dX10_undo_19 : decode cX10_undo 19 = .ok (.invokevirtual 157, 3) := by decide +kernel
theorem dX10_undo_22 : decode cX10_undo 22 = .ok (.ifCond .eq 5, 3) := by decide +kernel
theorem dX10_undo_25 : decode cX10_undo 25 = .ok (.iconst 0, 1) := by decide +kernel
theorem dX10_undo_26 : decode cX10_undo 26 = .ok (.ireturn, 1) := by decide +kernel
theorem dX10_undo_27 : decode cX10_undo 27 = .ok (.aload_n 0, 1) := by decide +kernel
theorem dX10_undo_28 : decode cX10_undo 28 = .ok (.dup, 1) := by decide +kernel
theorem dX10_undo_29 : decode cX10_undo 29 = .ok (.getfield 144, 3) := by decide +kernel
theorem dX10_undo_32 : decode cX10_undo 32 = .ok (.iconst 1, 1) := by decide +kernel
theorem dX10_undo_33 : decode cX10_undo 33 = .ok (.isub, 1) := by decide +kernel
theorem dX10_undo_34 : decode cX10_undo 34 = .ok (.putfield 144, 3) := by decide +kernel
theorem dX10_undo_37 : decode cX10_undo 37 = .ok (.aload_n 0, 1) := by decide +kernel
theorem dX10_undo_38 : decode cX10_undo 38 = .ok (.getfield 23, 3) := by decide +kernel
theorem dX10_undo_41 : decode cX10_undo 41 = .ok (.sipush 200, 3) := by decide +kernel
theorem dX10_undo_44 : decode cX10_undo 44 = .ok (.aload_n 0, 1) := by decide +kernel
theorem dX10_undo_45 : decode cX10_undo 45 = .ok (.getfield 144, 3) := by decide +kernel
theorem dX10_undo_48 : decode cX10_undo 48 = .ok (.imul, 1) := by decide +kernel
theorem dX10_undo_49 : decode cX10_undo 49 = .ok (.aload_n 0, 1) := by decide +kernel
theorem dX10_undo_50 : decode cX10_undo 50 = .ok (.getfield 13, 3) := by decide +kernel
theorem dX10_undo_53 : decode cX10_undo 53 = .ok (.iconst 0, 1) := by decide +kernel
theorem dX10_undo_54 : decode cX10_undo 54 = .ok (.invokestatic 147, 3) := by decide +kernel
theorem dX10_undo_57 : decode cX10_undo 57 = .ok (.aload_n 0, 1) := by decide +kernel
theorem dX10_undo_58 : decode cX10_undo 58 = .ok (.invokevirtual 164, 3) := by decide +kernel
theorem dX10_undo_61 : decode cX10_undo 61 = .ok (.aload_n 0, 1) := by decide +kernel
theorem dX10_undo_62 : decode cX10_undo 62 = .ok (.getfield 144, 3) := by decide +kernel
theorem dX10_undo_65 : decode cX10_undo 65 = .ok (.ireturn, 1) := by decide +kernel
theorem dX10_image_0 : decode cX10_image 0 = .ok (.aload_n 0, 1) := by decide +kernel
theorem dX10_image_1 : decode cX10_image 1 = .ok (.iconst 0, 1) := by decide +kernel
theorem dX10_image_2 : decode cX10_image 2 = .ok (.putfield 1, 3) := by decide +kernel
theorem dX10_image_5 : decode cX10_image 5 = .ok (.aload_n 0, 1) := by decide +kernel
theorem dX10_image_6 : decode cX10_image 6 = .ok (.getfield 13, 3) := by decide +kernel
theorem dX10_image_9 : decode cX10_image 9 = .ok (.iconst 0, 1) := by decide +kernel
theorem dX10_image_10 : decode cX10_image 10 = .ok (.aload_n 0, 1) := by decide +kernel
theorem dX10_image_11 : decode cX10_image 11 = .ok (.getfield 17, 3) := by decide +kernel
theorem dX10_image_14 : decode cX10_image 14 = .ok (.iconst 0, 1) := by decide +kernel
theorem dX10_image_15 : decode cX10_image 15 = .ok (.invokestatic 147, 3) := by decide +kernel
theorem dX10_image_18 : decode cX10_image 18 = .ok (.aload_n 0, 1) := by decide +kernel
theorem dX10_image_19 : decode cX10_image 19 = .ok (.iconst 1, 1) := by decide +kernel
theorem dX10_image_20 : decode cX10_image 20 = .ok (.putfield 167, 3) := by decide +kernel
theorem dX10_image_23 : decode cX10_image 23 = .ok (.return_, 1) := by decide +kernel
theorem dX10_back_0 : decode cX10_back 0 = .ok (.aload_n 0, 1) := by decide +kernel
theorem dX10_back_1 : decode cX10_back 1 = .ok (.iconst 0, 1) := by decide +kernel
theorem dX10_back_2 : decode cX10_back 2 = .ok (.putfield 1, 3) := by decide +kernel
theorem dX10_back_5 : decode cX10_back 5 = .ok (.aload_n 0, 1) := by decide +kernel
theorem dX10_back_6 : decode cX10_back 6 = .ok (.getfield 167, 3) := by decide +kernel
theorem dX10_back_9 : decode cX10_back 9 = .ok (.ifCond .ne 5, 3) := by decide +kernel
theorem dX10_back_12 : decode cX10_back 12 = .ok (.iconst 0, 1) := by decide +kernel
theorem dX10_back_13 : decode cX10_back 13 = .ok (.ireturn, 1) := by decide +kernel
theorem dX10_back_14 : decode cX10_back 14 = .ok (.aload_n 0, 1) := by decide +kernel
theorem dX10_back_15 : decode cX10_back 15 = .ok (.getfield 17, 3) := by decide +kernel
theorem dX10_back_18 : decode cX10_back 18 = .ok (.iconst 0, 1) := by decide +kernel
theorem dX10_back_19 : decode cX10_back 19 = .ok (.aload_n 0, 1) := by decide +kernel
theorem dX10_back_20 : decode cX10_back 20 = .ok (.getfield 13, 3) := by decide +kernel
theorem dX10_back_23 : decode cX10_back 23 = .ok (.iconst 0, 1) := by decide +kernel
theorem dX10_back_24 : decode cX10_back 24 = .ok (.invokestatic 147, 3) := by decide +kernel
theorem dX10_back_27 : decode cX10_back 27 = .ok (.aload_n 0, 1) := by decide +kernel
theorem dX10_back_28 : decode cX10_back 28 = .ok (.iconst 0, 1) := by decide +kernel
theorem dX10_back_29 : decode cX10_back 29 = .ok (.putfield 144, 3) := by decide +kernel
theorem dX10_back_32 : decode cX10_back 32 = .ok (.aload_n 0, 1) := by decide +kernel
theorem dX10_back_33 : decode cX10_back 33 = .ok (.invokevirtual 164, 3) := by decide +kernel
theorem dX10_back_36 : decode cX10_back 36 = .ok (.iconst 1, 1) := by decide +kernel
theorem dX10_back_37 : decode cX10_back 37 = .ok (.ireturn, 1) := by decide +kernel
