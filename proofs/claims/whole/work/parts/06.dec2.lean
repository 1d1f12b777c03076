theorem dX10_net_0 : decode cX10_net 0 = .ok (.aload_n 0, 1) := by decide +kernel
theorem dX10_net_1 : decode cX10_net 1 = .ok (.iconst 0, 1) := by decide +kernel
theorem dX10_net_2 : decode cX10_net 2 = .ok (.putfield 1, 3) := by decide +kernel
theorem dX10_net_5 : decode cX10_net 5 = .ok (.aload_n 0, 1) := by decide +kernel
theorem dX10_net_6 : decode cX10_net 6 = .ok (.iload_n 1, 1) := by decide +kernel
theorem dX10_net_7 : decode cX10_net 7 = .ok (.iconst 2, 1) := by decide +kernel
theorem dX10_net_8 : decode cX10_net 8 = .ok (.bipush 16, 2) := by decide +kernel
theorem dX10_net_10 : decode cX10_net 10 = .ok (.invokestatic 84, 3) := by decide +kernel
theorem dX10_net_13 : decode cX10_net 13 = .ok (.ifCond .ne 7, 3) := by decide +kernel
theorem dX10_net_16 : decode cX10_net 16 = .ok (.iconst 1, 1) := by decide +kernel
theorem dX10_net_17 : decode cX10_net 17 = .ok (.goto 4, 3) := by decide +kernel
theorem dX10_net_20 : decode cX10_net 20 = .ok (.iconst 0, 1) := by decide +kernel
theorem dX10_net_21 : decode cX10_net 21 = .ok (.iconst 1, 1) := by decide +kernel
theorem dX10_net_22 : decode cX10_net 22 = .ok (.invokevirtual 157, 3) := by decide +kernel
theorem dX10_net_25 : decode cX10_net 25 = .ok (.ifCond .eq 4, 3) := by decide +kernel
theorem dX10_net_28 : decode cX10_net 28 = .ok (.return_, 1) := by decide +kernel
theorem dX10_net_29 : decode cX10_net 29 = .ok (.aload_n 0, 1) := by decide +kernel
theorem dX10_net_30 : decode cX10_net 30 = .ok (.iload_n 1, 1) := by decide +kernel
theorem dX10_net_31 : decode cX10_net 31 = .ok (.invokevirtual 76, 3) := by decide +kernel
theorem dX10_net_34 : decode cX10_net 34 = .ok (.aload_n 0, 1) := by decide +kernel
theorem dX10_net_35 : decode cX10_net 35 = .ok (.iconst 0, 1) := by decide +kernel
theorem dX10_net_36 : decode cX10_net 36 = .ok (.putfield 144, 3) := by decide +kernel
theorem dX10_net_39 : decode cX10_net 39 = .ok (.aload_n 0, 1) := by decide +kernel
theorem dX10_net_40 : decode cX10_net 40 = .ok (.iconst 0, 1) := by decide +kernel
theorem dX10_net_41 : decode cX10_net 41 = .ok (.putfield 154, 3) := by decide +kernel
theorem dX10_net_44 : decode cX10_net 44 = .ok (.aload_n 0, 1) := by decide +kernel
theorem dX10_net_45 : decode cX10_net 45 = .ok (.invokevirtual 164, 3) := by decide +kernel
theorem dX10_net_48 : decode cX10_net 48 = .ok (.return_, 1) := by decide +kernel
theorem dX10_whyNoTell_0 : decode cX10_whyNoTell 0 = .ok (.aload_n 0, 1) := by decide +kernel
theorem dX10_whyNoTell_1 : decode cX10_whyNoTell 1 = .ok (.iload_n 1, 1) := by decide +kernel
theorem dX10_whyNoTell_2 : decode cX10_whyNoTell 2 = .ok (.invokevirtual 171, 3) := by decide +kernel
theorem dX10_whyNoTell_5 : decode cX10_whyNoTell 5 = .ok (.ifCond .ne 7, 3) := by decide +kernel
theorem dX10_whyNoTell_8 : decode cX10_whyNoTell 8 = .ok (.iconst 1, 1) := by decide +kernel
theorem dX10_whyNoTell_9 : decode cX10_whyNoTell 9 = .ok (.goto 18, 3) := by decide +kernel
theorem dX10_whyNoTell_12 : decode cX10_whyNoTell 12 = .ok (.aload_n 0, 1) := by decide +kernel
theorem dX10_whyNoTell_13 : decode cX10_whyNoTell 13 = .ok (.getfield 13, 3) := by decide +kernel
theorem dX10_whyNoTell_16 : decode cX10_whyNoTell 16 = .ok (.iload_n 2, 1) := by decide +kernel
theorem dX10_whyNoTell_17 : decode cX10_whyNoTell 17 = .ok (.iaload, 1) := by decide +kernel
theorem dX10_whyNoTell_18 : decode cX10_whyNoTell 18 = .ok (.iload_n 1, 1) := by decide +kernel
theorem dX10_whyNoTell_19 : decode cX10_whyNoTell 19 = .ok (.if_icmp .ne 7, 3) := by decide +kernel
theorem dX10_whyNoTell_22 : decode cX10_whyNoTell 22 = .ok (.iconst 4, 1) := by decide +kernel
theorem dX10_whyNoTell_23 : decode cX10_whyNoTell 23 = .ok (.goto 4, 3) := by decide +kernel
theorem dX10_whyNoTell_26 : decode cX10_whyNoTell 26 = .ok (.iconst 0, 1) := by decide +kernel
theorem dX10_whyNoTell_27 : decode cX10_whyNoTell 27 = .ok (.ireturn, 1) := by decide +kernel
theorem dX10_whyNoLay_0 : decode cX10_whyNoLay 0 = .ok (.aload_n 0, 1) := by decide +kernel
theorem dX10_whyNoLay_1 : decode cX10_whyNoLay 1 = .ok (.iload_n 1, 1) := by decide +kernel
theorem dX10_whyNoLay_2 : decode cX10_whyNoLay 2 = .ok (.invokevirtual 171, 3) := by decide +kernel
theorem dX10_whyNoLay_5 : decode cX10_whyNoLay 5 = .ok (.ifCond .eq 11, 3) := by decide +kernel
theorem dX10_whyNoLay_8 : decode cX10_whyNoLay 8 = .ok (.aload_n 0, 1) := by decide +kernel
theorem dX10_whyNoLay_9 : decode cX10_whyNoLay 9 = .ok (.iload_n 2, 1) := by decide +kernel
theorem dX10_whyNoLay_10 : decode cX10_whyNoLay 10 = .ok (.invokevirtual 171, 3) := by decide +kernel
theorem dX10_whyNoLay_13 : decode cX10_whyNoLay 13 = .ok (.ifCond .ne 7, 3) := by decide +kernel
theorem dX10_whyNoLay_16 : decode cX10_whyNoLay 16 = .ok (.iconst 1, 1) := by decide +kernel
theorem dX10_whyNoLay_17 : decode cX10_whyNoLay 17 = .ok (.goto 17, 3) := by decide +kernel
theorem dX10_whyNoLay_20 : decode cX10_whyNoLay 20 = .ok (.aload_n 0, 1) := by decide +kernel
theorem dX10_whyNoLay_21 : decode cX10_whyNoLay 21 = .ok (.invokevirtual 88, 3) := by decide +kernel
theorem dX10_whyNoLay_24 : decode cX10_whyNoLay 24 = .ok (.bipush 60, 2) := by decide +kernel
theorem dX10_whyNoLay_26 : decode cX10_whyNoLay 26 = .ok (.if_icmp .ne 7, 3) := by decide +kernel
theorem dX10_whyNoLay_29 : decode cX10_whyNoLay 29 = .ok (.iconst 2, 1) := by decide +kernel
theorem dX10_whyNoLay_30 : decode cX10_whyNoLay 30 = .ok (.goto 4, 3) := by decide +kernel
theorem dX10_whyNoLay_33 : decode cX10_whyNoLay 33 = .ok (.iconst 0, 1) := by decide +kernel
theorem dX10_whyNoLay_34 : decode cX10_whyNoLay 34 = .ok (.ireturn, 1) := by decide +kernel
theorem dX10_whyNoTurn_0 : decode cX10_whyNoTurn 0 = .ok (.aload_n 0, 1) := by decide +kernel
theorem dX10_whyNoTurn_1 : decode cX10_whyNoTurn 1 = .ok (.iload_n 1, 1) := by decide +kernel
theorem dX10_whyNoTurn_2 : decode cX10_whyNoTurn 2 = .ok (.invokevirtual 174, 3) := by decide +kernel
theorem dX10_whyNoTurn_5 : decode cX10_whyNoTurn 5 = .ok (.ifCond .ne 7, 3) := by decide +kernel
theorem dX10_whyNoTurn_8 : decode cX10_whyNoTurn 8 = .ok (.iconst 3, 1) := by decide +kernel
theorem dX10_whyNoTurn_9 : decode cX10_whyNoTurn 9 = .ok (.goto 22, 3) := by decide +kernel
theorem dX10_whyNoTurn_12 : decode cX10_whyNoTurn 12 = .ok (.aload_n 0, 1) := by decide +kernel
theorem dX10_whyNoTurn_13 : decode cX10_whyNoTurn 13 = .ok (.getfield 13, 3) := by decide +kernel
theorem dX10_whyNoTurn_16 : decode cX10_whyNoTurn 16 = .ok (.sipush 140, 3) := by decide +kernel
theorem dX10_whyNoTurn_19 : decode cX10_whyNoTurn 19 = .ok (.iload_n 1, 1) := by decide +kernel
theorem dX10_whyNoTurn_20 : decode cX10_whyNoTurn 20 = .ok (.iadd, 1) := by decide +kernel
theorem dX10_whyNoTurn_21 : decode cX10_whyNoTurn 21 = .ok (.iaload, 1) := by decide +kernel
theorem dX10_whyNoTurn_22 : decode cX10_whyNoTurn 22 = .ok (.iload_n 2, 1) := by decide +kernel
theorem dX10_whyNoTurn_23 : decode cX10_whyNoTurn 23 = .ok (.if_icmp .ne 7, 3) := by decide +kernel
theorem dX10_whyNoTurn_26 : decode cX10_whyNoTurn 26 = .ok (.iconst 4, 1) := by decide +kernel
theorem dX10_whyNoTurn_27 : decode cX10_whyNoTurn 27 = .ok (.goto 4, 3) := by decide +kernel
theorem dX10_whyNoTurn_30 : decode cX10_whyNoTurn 30 = .ok (.iconst 0, 1) := by decide +kernel
theorem dX10_whyNoTurn_31 : decode cX10_whyNoTurn 31 = .ok (.ireturn, 1) := by decide +kernel
theorem dX10_whyNoToll_0 : decode cX10_whyNoToll 0 = .ok (.aload_n 0, 1) := by decide +kernel
theorem dX10_whyNoToll_1 : decode cX10_whyNoToll 1 = .ok (.iload_n 1, 1) := by decide +kernel
theorem dX10_whyNoToll_2 : decode cX10_whyNoToll 2 = .ok (.invokevirtual 171, 3) := by decide +kernel
theorem dX10_whyNoToll_5 : decode cX10_whyNoToll 5 = .ok (.ifCond .ne 7, 3) := by decide +kernel
theorem dX10_whyNoToll_8 : decode cX10_whyNoToll 8 = .ok (.iconst 1, 1) := by decide +kernel
theorem dX10_whyNoToll_9 : decode cX10_whyNoToll 9 = .ok (.goto 20, 3) := by decide +kernel
theorem dX10_whyNoToll_12 : decode cX10_whyNoToll 12 = .ok (.aload_n 0, 1) := by decide +kernel
theorem dX10_whyNoToll_13 : decode cX10_whyNoToll 13 = .ok (.getfield 13, 3) := by decide +kernel
theorem dX10_whyNoToll_16 : decode cX10_whyNoToll 16 = .ok (.iconst 4, 1) := by decide +kernel
theorem dX10_whyNoToll_17 : decode cX10_whyNoToll 17 = .ok (.iload_n 1, 1) := by decide +kernel
theorem dX10_whyNoToll_18 : decode cX10_whyNoToll 18 = .ok (.iadd, 1) := by decide +kernel
theorem dX10_whyNoToll_19 : decode cX10_whyNoToll 19 = .ok (.iaload, 1) := by decide +kernel
theorem dX10_whyNoToll_20 : decode cX10_whyNoToll 20 = .ok (.iload_n 2, 1) := by decide +kernel
theorem dX10_whyNoToll_21 : decode cX10_whyNoToll 21 = .ok (.if_icmp .ne 7, 3) := by decide +kernel
theorem dX10_whyNoToll_24 : decode cX10_whyNoToll 24 = .ok (.iconst 4, 1) := by decide +kernel
theorem dX10_whyNoToll_25 : decode cX10_whyNoToll 25 = .ok (.goto 4, 3) := by decide +kernel
theorem dX10_whyNoToll_28 : decode cX10_whyNoToll 28 = .ok (.iconst 0, 1) := by decide +kernel
theorem dX10_whyNoToll_29 : decode cX10_whyNoToll 29 = .ok (.ireturn, 1) := by decide +kernel
theorem dX10_lays_0 : decode cX10_lays 0 = .ok (.aload_n 0, 1) := by decide +kernel
theorem dX10_lays_1 : decode cX10_lays 1 = .ok (.invokevirtual 88, 3) := by decide +kernel
theorem dX10_lays_4 : decode cX10_lays 4 = .ok (.istore_n 3, 1) := by decide +kernel
theorem dX10_lays_5 : decode cX10_lays 5 = .ok (.aload_n 0, 1) := by decide +kernel
theorem dX10_lays_6 : decode cX10_lays 6 = .ok (.getfield 13, 3) := by decide +kernel
theorem dX10_lays_9 : decode cX10_lays 9 = .ok (.bipush 20, 2) := by decide +kernel
theorem dX10_lays_11 : decode cX10_lays 11 = .ok (.iload_n 3, 1) := by decide +kernel
theorem dX10_lays_12 : decode cX10_lays 12 = .ok (.iadd, 1) := by decide +kernel
theorem dX10_lays_13 : decode cX10_lays 13 = .ok (.iload_n 1, 1) := by decide +kernel
theorem dX10_lays_14 : decode cX10_lays 14 = .ok (.iastore, 1) := by decide +kernel
theorem dX10_lays_15 : decode cX10_lays 15 = .ok (.aload_n 0, 1) := by decide +kernel
theorem dX10_lays_16 : decode cX10_lays 16 = .ok (.getfield 13, 3) := by decide +kernel
theorem dX10_lays_19 : decode cX10_lays 19 = .ok (.bipush 80, 2) := by decide +kernel
theorem dX10_lays_21 : decode cX10_lays 21 = .ok (.iload_n 3, 1) := by decide +kernel
theorem dX10_lays_22 : decode cX10_lays 22 = .ok (.iadd, 1) := by decide +kernel
theorem dX10_lays_23 : decode cX10_lays 23 = .ok (.iload_n 2, 1) := by decide +kernel
theorem dX10_lays_24 : decode cX10_lays 24 = .ok (.iastore, 1) := by decide +kernel
theorem dX10_lays_25 : decode cX10_lays 25 = .ok (.aload_n 0, 1) := by decide +kernel
theorem dX10_lays_26 : decode cX10_lays 26 = .ok (.getfield 13, 3) := by decide +kernel
theorem dX10_lays_29 : decode cX10_lays 29 = .ok (.sipush 140, 3) := by decide +kernel
theorem dX10_lays_32 : decode cX10_lays 32 = .ok (.iload_n 3, 1) := by decide +kernel
theorem dX10_lays_33 : decode cX10_lays 33 = .ok (.iadd, 1) := by decide +kernel
theorem dX10_lays_34 : decode cX10_lays 34 = .ok (.iconst 1, 1) := by decide +kernel
theorem dX10_lays_35 : decode cX10_lays 35 = .ok (.iastore, 1) := by decide +kernel
theorem dX10_lays_36 : decode cX10_lays 36 = .ok (.aload_n 0, 1) := by decide +kernel
theorem dX10_lays_37 : decode cX10_lays 37 = .ok (.getfield 13, 3) := by decide +kernel
theorem dX10_lays_40 : decode cX10_lays 40 = .ok (.iconst 3, 1) := by decide +kernel
theorem dX10_lays_41 : decode cX10_lays 41 = .ok (.dup2, 1) := by decide +kernel
theorem dX10_lays_42 : decode cX10_lays 42 = .ok (.iaload, 1) := by decide +kernel
theorem dX10_lays_43 : decode cX10_lays 43 = .ok (.iconst 1, 1) := by decide +kernel
theorem dX10_lays_44 : decode cX10_lays 44 = .ok (.iadd, 1) := by decide +kernel
theorem dX10_lays_45 : decode cX10_lays 45 = .ok (.iastore, 1) := by decide +kernel
theorem dX10_lays_46 : decode cX10_lays 46 = .ok (.iload_n 3, 1) := by decide +kernel
theorem dX10_lays_47 : decode cX10_lays 47 = .ok (.ireturn, 1) := by decide +kernel
theorem dX10_tell_0 : decode cX10_tell 0 = .ok (.aload_n 0, 1) := by decide +kernel
theorem dX10_tell_1 : decode cX10_tell 1 = .ok (.iconst 0, 1) := by decide +kernel
theorem dX10_tell_2 : decode cX10_tell 2 = .ok (.putfield 1, 3) := by decide +kernel
theorem dX10_tell_5 : decode cX10_tell 5 = .ok (.iload_n 2, 1) := by decide +kernel
theorem dX10_tell_6 : decode cX10_tell 6 = .ok (.ifCond .eq 7, 3) := by decide +kernel
theorem dX10_tell_9 : decode cX10_tell 9 = .ok (.iconst 2, 1) := by decide +kernel
theorem dX10_tell_10 : decode cX10_tell 10 = .ok (.goto 4, 3) := by decide +kernel
theorem dX10_tell_13 : decode cX10_tell 13 = .ok (.iconst 1, 1) := by decide +kernel
theorem dX10_tell_14 : decode cX10_tell 14 = .ok (.istore_n 3, 1) := by decide +kernel
theorem dX10_tell_15 : decode cX10_tell 15 = .ok (.aload_n 0, 1) := by decide +kernel
theorem dX10_tell_16 : decode cX10_tell 16 = .ok (.aload_n 0, 1) := by decide +kernel
theorem dX10_tell_17 : decode cX10_tell 17 = .ok (.iload_n 1, 1) := by decide +kernel
theorem dX10_tell_18 : decode cX10_tell 18 = .ok (.iload_n 3, 1) := by decide +kernel
theorem dX10_tell_19 : decode cX10_tell 19 = .ok (.invokevirtual 177, 3) := by decide +kernel
theorem dX10_tell_22 : decode cX10_tell 22 = .ok (.iconst 1, 1) := by decide +kernel
theorem dX10_tell_23 : decode cX10_tell 23 = .ok (.invokevirtual 180, 3) := by decide +kernel
theorem dX10_tell_26 : decode cX10_tell 26 = .ok (.ifCond .eq 5, 3) := by decide +kernel
theorem dX10_tell_29 : decode cX10_tell 29 = .ok (.iconst 0, 1) := by decide +kernel
theorem dX10_tell_30 : decode cX10_tell 30 = .ok (.ireturn, 1) := by decide +kernel
theorem dX10_tell_31 : decode cX10_tell 31 = .ok (.aload_n 0, 1) := by decide +kernel
theorem dX10_tell_32 : decode cX10_tell 32 = .ok (.getfield 13, 3) := by decide +kernel
theorem dX10_tell_35 : decode cX10_tell 35 = .ok (.iload_n 3, 1) := by decide +kernel
theorem dX10_tell_36 : decode cX10_tell 36 = .ok (.iaload, 1) := by decide +kernel
theorem dX10_tell_37 : decode cX10_tell 37 = .ok (.istore 4, 2) := by decide +kernel
theorem dX10_tell_39 : decode cX10_tell 39 = .ok (.aload_n 0, 1) := by decide +kernel
theorem dX10_tell_40 : decode cX10_tell 40 = .ok (.getfield 13, 3) := by decide +kernel
theorem dX10_tell_43 : decode cX10_tell 43 = .ok (.iload_n 3, 1) := by decide +kernel
theorem dX10_tell_44 : decode cX10_tell 44 = .ok (.iload_n 1, 1) := by decide +kernel
theorem dX10_tell_45 : decode cX10_tell 45 = .ok (.iastore, 1) := by decide +kernel
theorem dX10_tell_46 : decode cX10_tell 46 = .ok (.aload_n 0, 1) := by decide +kernel
theorem dX10_tell_47 : decode cX10_tell 47 = .ok (.invokevirtual 183, 3) := by decide +kernel
theorem dX10_tell_50 : decode cX10_tell 50 = .ok (.iload 4, 2) := by decide +kernel
theorem dX10_tell_52 : decode cX10_tell 52 = .ok (.ireturn, 1) := by decide +kernel
theorem dX10_lay_0 : decode cX10_lay 0 = .ok (.aload_n 0, 1) := by decide +kernel
theorem dX10_lay_1 : decode cX10_lay 1 = .ok (.iconst 0, 1) := by decide +kernel
theorem dX10_lay_2 : decode cX10_lay 2 = .ok (.putfield 1, 3) := by decide +kernel
theorem dX10_lay_5 : decode cX10_lay 5 = .ok (.aload_n 0, 1) := by decide +kernel
theorem dX10_lay_6 : decode cX10_lay 6 = .ok (.aload_n 0, 1) := by decide +kernel
theorem dX10_lay_7 : decode cX10_lay 7 = .ok (.iload_n 1, 1) := by decide +kernel
theorem dX10_lay_8 : decode cX10_lay 8 = .ok (.iload_n 2, 1) := by decide +kernel
theorem dX10_lay_9 : decode cX10_lay 9 = .ok (.invokevirtual 186, 3) := by decide +kernel
theorem dX10_lay_12 : decode cX10_lay 12 = .ok (.iconst 1, 1) := by decide +kernel
theorem dX10_lay_13 : decode cX10_lay 13 = .ok (.invokevirtual 180, 3) := by decide +kernel
theorem dX10_lay_16 : decode cX10_lay 16 = .ok (.ifCond .eq 5, 3) := by decide +kernel
theorem dX10_lay_19 : decode cX10_lay 19 = .ok (.iconst 0, 1) := by decide +kernel
theorem dX10_lay_20 : decode cX10_lay 20 = .ok (.ireturn, 1) := by decide +kernel
theorem dX10_lay_21 : decode cX10_lay 21 = .ok (.aload_n 0, 1) := by decide +kernel
theorem dX10_lay_22 : decode cX10_lay 22 = .ok (.iload_n 1, 1) := by decide +kernel
theorem dX10_lay_23 : decode cX10_lay 23 = .ok (.iload_n 2, 1) := by decide +kernel
theorem dX10_lay_24 : decode cX10_lay 24 = .ok (.invokevirtual 189, 3) := by decide +kernel
theorem dX10_lay_27 : decode cX10_lay 27 = .ok (.istore_n 3, 1) := by decide +kernel
theorem dX10_lay_28 : decode cX10_lay 28 = .ok (.aload_n 0, 1) := by decide +kernel
theorem dX10_lay_29 : decode cX10_lay 29 = .ok (.invokevirtual 183, 3) := by decide +kernel
theorem dX10_lay_32 : decode cX10_lay 32 = .ok (.iload_n 3, 1) := by decide +kernel
theorem dX10_lay_33 : decode cX10_lay 33 = .ok (.ireturn, 1) := by decide +kernel
theorem dX10_shut_0 : decode cX10_shut 0 = .ok (.aload_n 0, 1) := by decide +kernel
theorem dX10_shut_1 : decode cX10_shut 1 = .ok (.iconst 0, 1) := by decide +kernel
theorem dX10_shut_2 : decode cX10_shut 2 = .ok (.putfield 1, 3) := by decide +kernel
theorem dX10_shut_5 : decode cX10_shut 5 = .ok (.aload_n 0, 1) := by decide +kernel
theorem dX10_shut_6 : decode cX10_shut 6 = .ok (.aload_n 0, 1) := by decide +kernel
theorem dX10_shut_7 : decode cX10_shut 7 = .ok (.iload_n 1, 1) := by decide +kernel
theorem dX10_shut_8 : decode cX10_shut 8 = .ok (.iconst 0, 1) := by decide +kernel
theorem dX10_shut_9 : decode cX10_shut 9 = .ok (.invokevirtual 192, 3) := by decide +kernel
theorem dX10_shut_12 : decode cX10_shut 12 = .ok (.iconst 1, 1) := by decide +kernel
theorem dX10_shut_13 : decode cX10_shut 13 = .ok (.invokevirtual 180, 3) := by decide +kernel
theorem dX10_shut_16 : decode cX10_shut 16 = .ok (.ifCond .eq 5, 3) := by decide +kernel
theorem dX10_shut_19 : decode cX10_shut 19 = .ok (.iconst 0, 1) := by decide +kernel
theorem dX10_shut_20 : decode cX10_shut 20 = .ok (.ireturn, 1) := by decide +kernel
theorem dX10_shut_21 : decode cX10_shut 21 = .ok (.aload_n 0, 1) := by decide +kernel
theorem dX10_shut_22 : decode cX10_shut 22 = .ok (.getfield 13, 3) := by decide +kernel
theorem dX10_shut_25 : decode cX10_shut 25 = .ok (.sipush 140, 3) := by decide +kernel
theorem dX10_shut_28 : decode cX10_shut 28 = .ok (.iload_n 1, 1) := by decide +kernel
theorem dX10_shut_29 : decode cX10_shut 29 = .ok (.iadd, 1) := by decide +kernel
theorem dX10_shut_30 : decode cX10_shut 30 = .ok (.iconst 0, 1) := by decide +kernel
theorem dX10_shut_31 : decode cX10_shut 31 = .ok (.iastore, 1) := by decide +kernel
theorem dX10_shut_32 : decode cX10_shut 32 = .ok (.aload_n 0, 1) := by decide +kernel
theorem dX10_shut_33 : decode cX10_shut 33 = .ok (.invokevirtual 183, 3) := by decide +kernel
theorem dX10_shut_36 : decode cX10_shut 36 = .ok (.aload_n 0, 1) := by decide +kernel
theorem dX10_shut_37 : decode cX10_shut 37 = .ok (.getfield 135, 3) := by decide +kernel
theorem dX10_shut_40 : decode cX10_shut 40 = .ok (.invokestatic 123, 3) := by decide +kernel
theorem dX10_shut_43 : decode cX10_shut 43 = .ok (.ireturn, 1) := by decide +kernel
theorem dX10_open_0 : decode cX10_open 0 = .ok (.aload_n 0, 1) := by decide +kernel
theorem dX10_open_1 : decode cX10_open 1 = .ok (.iconst 0, 1) := by decide +kernel
theorem dX10_open_2 : decode cX10_open 2 = .ok (.putfield 1, 3) := by decide +kernel
theorem dX10_open_5 : decode cX10_open 5 = .ok (.aload_n 0, 1) := by decide +kernel
theorem dX10_open_6 : decode cX10_open 6 = .ok (.aload_n 0, 1) := by decide +kernel
theorem dX10_open_7 : decode cX10_open 7 = .ok (.iload_n 1, 1) := by decide +kernel
theorem dX10_open_8 : decode cX10_open 8 = .ok (.iconst 1, 1) := by decide +kernel
theorem dX10_open_9 : decode cX10_open 9 = .ok (.invokevirtual 192, 3) := by decide +kernel
theorem dX10_open_12 : decode cX10_open 12 = .ok (.iconst 1, 1) := by decide +kernel
theorem dX10_open_13 : decode cX10_open 13 = .ok (.invokevirtual 180, 3) := by decide +kernel
theorem dX10_open_16 : decode cX10_open 16 = .ok (.ifCond .eq 5, 3) := by decide +kernel
theorem dX10_open_19 : decode cX10_open 19 = .ok (.iconst 0, 1) := by decide +kernel
theorem dX10_open_20 : decode cX10_open 20 = .ok (.ireturn, 1) := by decide +kernel
theorem dX10_open_21 : decode cX10_open 21 = .ok (.aload_n 0, 1) := by decide +kernel
theorem dX10_open_22 : decode cX10_open 22 = .ok (.getfield 13, 3) := by decide +kernel
theorem dX10_open_25 : decode cX10_open 25 = .ok (.sipush 140, 3) := by decide +kernel
theorem dX10_open_28 : decode cX10_open 28 = .ok (.iload_n 1, 1) := by decide +kernel
theorem dX10_open_29 : decode cX10_open 29 = .ok (.iadd, 1) := by decide +kernel
theorem dX10_open_30 : decode cX10_open 30 = .ok (.iconst 1, 1) := by decide +kernel
theorem dX10_open_31 : decode cX10_open 31 = .ok (.iastore, 1) := by decide +kernel
theorem dX10_open_32 : decode cX10_open 32 = .ok (.aload_n 0, 1) := by decide +kernel
theorem dX10_open_33 : decode cX10_open 33 = .ok (.invokevirtual 183, 3) := by decide +kernel
theorem dX10_open_36 : decode cX10_open 36 = .ok (.aload_n 0, 1) := by decide +kernel
theorem dX10_open_37 : decode cX10_open 37 = .ok (.getfield 132, 3) := by decide +kernel
theorem dX10_open_40 : decode cX10_open 40 = .ok (.invokestatic 123, 3) := by decide +kernel
theorem dX10_open_43 : decode cX10_open 43 = .ok (.ireturn, 1) := by decide +kernel
theorem dX10_toll_0 : decode cX10_toll 0 = .ok (.aload_n 0, 1) := by decide +kernel
theorem dX10_toll_1 : decode cX10_toll 1 = .ok (.iconst 0, 1) := by decide +kernel
theorem dX10_toll_2 : decode cX10_toll 2 = .ok (.putfield 1, 3) := by decide +kernel
theorem dX10_toll_5 : decode cX10_toll 5 = .ok (.aload_n 0, 1) := by decide +kernel
theorem dX10_toll_6 : decode cX10_toll 6 = .ok (.iload_n 2, 1) := by decide +kernel
theorem dX10_toll_7 : decode cX10_toll 7 = .ok (.iconst 0, 1) := by decide +kernel
theorem dX10_toll_8 : decode cX10_toll 8 = .ok (.bipush 99, 2) := by decide +kernel
theorem dX10_toll_10 : decode cX10_toll 10 = .ok (.invokestatic 84, 3) := by decide +kernel
theorem dX10_toll_13 : decode cX10_toll 13 = .ok (.ifCond .ne 7, 3) := by decide +kernel
theorem dX10_toll_16 : decode cX10_toll 16 = .ok (.iconst 1, 1) := by decide +kernel
theorem dX10_toll_17 : decode cX10_toll 17 = .ok (.goto 4, 3) := by decide +kernel
theorem dX10_toll_20 : decode cX10_toll 20 = .ok (.iconst 0, 1) := by decide +kernel
theorem dX10_toll_21 : decode cX10_toll 21 = .ok (.iconst 1, 1) := by decide +kernel
theorem dX10_toll_22 : decode cX10_toll 22 = .ok (.invokevirtual 157, 3) := by decide +kernel
theorem dX10_toll_25 : decode cX10_toll 25 = .ok (.ifCond .ne 17, 3) := by decide +kernel
theorem dX10_toll_28 : decode cX10_toll 28 = .ok (.aload_n 0, 1) := by decide +kernel
theorem dX10_toll_29 : decode cX10_toll 29 = .ok (.aload_n 0, 1) := by decide +kernel
theorem dX10_toll_30 : decode cX10_toll 30 = .ok (.iload_n 1, 1) := by decide +kernel
theorem dX10_toll_31 : decode cX10_toll 31 = .ok (.iload_n 2, 1) := by decide +kernel
theorem dX10_toll_32 : decode cX10_toll 32 = .ok (.invokevirtual 195, 3) := by decide +kernel
theorem dX10_toll_35 : decode cX10_toll 35 = .ok (.iconst 2, 1) := by decide +kernel
theorem dX10_toll_36 : decode cX10_toll 36 = .ok (.invokevirtual 180, 3) := by decide +kernel
theorem dX10_toll_39 : decode cX10_toll 39 = .ok (.ifCond .eq 5, 3) := by decide +kernel
theorem dX10_toll_42 : decode cX10_toll 42 = .ok (.iconst 0, 1) := by decide +kernel
theorem dX10_toll_43 : decode cX10_toll 43 = .ok (.ireturn, 1) := by decide +kernel
theorem dX10_toll_44 : decode cX10_toll 44 = .ok (.aload_n 0, 1) := by decide +kernel
theorem dX10_toll_45 : decode cX10_toll 45 = .ok (.getfield 13, 3) := by decide +kernel
theorem dX10_toll_48 : decode cX10_toll 48 = .ok (.iconst 4, 1) := by decide +kernel
theorem dX10_toll_49 : decode cX10_toll 49 = .ok (.iload_n 1, 1) := by decide +kernel
theorem dX10_toll_50 : decode cX10_toll 50 = .ok (.iadd, 1) := by decide +kernel
theorem dX10_toll_51 : decode cX10_toll 51 = .ok (.iaload, 1) := by decide +kernel
theorem dX10_toll_52 : decode cX10_toll 52 = .ok (.istore_n 3, 1) := by decide +kernel
theorem dX10_toll_53 : decode cX10_toll 53 = .ok (.aload_n 0, 1) := by decide +kernel
theorem dX10_toll_54 : decode cX10_toll 54 = .ok (.getfield 13, 3) := by decide +kernel
theorem dX10_toll_57 : decode cX10_toll 57 = .ok (.iconst 4, 1) := by decide +kernel
theorem dX10_toll_58 : decode cX10_toll 58 = .ok (.iload_n 1, 1) := by decide +kernel
theorem dX10_toll_59 : decode cX10_toll 59 = .ok (.iadd, 1) := by decide +kernel
theorem dX10_toll_60 : decode cX10_toll 60 = .ok (.iload_n 2, 1) := by decide +kernel
theorem dX10_toll_61 : decode cX10_toll 61 = .ok (.iastore, 1) := by decide +kernel
theorem dX10_toll_62 : decode cX10_toll 62 = .ok (.aload_n 0, 1) := by decide +kernel
theorem dX10_toll_63 : decode cX10_toll 63 = .ok (.invokevirtual 183, 3) := by decide +kernel
theorem dX10_toll_66 : decode cX10_toll 66 = .ok (.iload_n 3, 1) := by decide +kernel
theorem dX10_toll_67 : decode cX10_toll 67 = .ok (.ireturn, 1) := by decide +kernel
theorem dX10_why_0 : decode cX10_why 0 = .ok (.aload_n 0, 1) := by decide +kernel
theorem dX10_why_1 : decode cX10_why 1 = .ok (.iconst 0, 1) := by decide +kernel
theorem dX10_why_2 : decode cX10_why 2 = .ok (.putfield 1, 3) := by decide +kernel
theorem dX10_why_5 : decode cX10_why 5 = .ok (.aload_n 0, 1) := by decide +kernel
theorem dX10_why_6 : decode cX10_why 6 = .ok (.getfield 154, 3) := by decide +kernel
theorem dX10_why_9 : decode cX10_why 9 = .ok (.ireturn, 1) := by decide +kernel
theorem dX10_latest_0 : decode cX10_latest 0 = .ok (.aload_n 0, 1) := by decide +kernel
theorem dX10_latest_1 : decode cX10_latest 1 = .ok (.iconst 0, 1) := by decide +kernel
theorem dX10_latest_2 : decode cX10_latest 2 = .ok (.putfield 1, 3) := by decide +kernel
theorem dX10_latest_5 : decode cX10_latest 5 = .ok (.aload_n 0, 1) := by decide +kernel
theorem dX10_latest_6 : decode cX10_latest 6 = .ok (.iload_n 1, 1) := by decide +kernel
theorem dX10_latest_7 : decode cX10_latest 7 = .ok (.iconst 0, 1) := by decide +kernel
theorem dX10_latest_8 : decode cX10_latest 8 = .ok (.iconst 3, 1) := by decide +kernel
theorem dX10_latest_9 : decode cX10_latest 9 = .ok (.invokestatic 84, 3) := by decide +kernel
theorem dX10_latest_12 : decode cX10_latest 12 = .ok (.ifCond .ne 7, 3) := by decide +kernel
theorem dX10_latest_15 : decode cX10_latest 15 = .ok (.iconst 1, 1) := by decide +kernel
theorem dX10_latest_16 : decode cX10_latest 16 = .ok (.goto 4, 3) := by decide +kernel
theorem dX10_latest_19 : decode cX10_latest 19 = .ok (.iconst 0, 1) := by decide +kernel
theorem dX10_latest_20 : decode cX10_latest 20 = .ok (.iconst 1, 1) := by decide +kernel
theorem dX10_latest_21 : decode cX10_latest 21 = .ok (.invokevirtual 157, 3) := by decide +kernel
theorem dX10_latest_24 : decode cX10_latest 24 = .ok (.ifCond .eq 5, 3) := by decide +kernel
theorem dX10_latest_27 : decode cX10_latest 27 = .ok (.iconst 0, 1) := by decide +kernel
theorem dX10_latest_28 : decode cX10_latest 28 = .ok (.ireturn, 1) := by decide +kernel
theorem dX10_latest_29 : decode cX10_latest 29 = .ok (.iload_n 1, 1) := by decide +kernel
theorem dX10_latest_30 : decode cX10_latest 30 = .ok (.ifCond .ne 10, 3) := by decide +kernel
theorem dX10_latest_33 : decode cX10_latest 33 = .ok (.aload_n 0, 1) := by decide +kernel
theorem dX10_latest_34 : decode cX10_latest 34 = .ok (.getfield 132, 3) := by decide +kernel
theorem dX10_latest_37 : decode cX10_latest 37 = .ok (.goto 31, 3) := by decide +kernel
theorem dX10_latest_40 : decode cX10_latest 40 = .ok (.iload_n 1, 1) := by decide +kernel
theorem dX10_latest_41 : decode cX10_latest 41 = .ok (.iconst 1, 1) := by decide +kernel
theorem dX10_latest_42 : decode cX10_latest 42 = .ok (.if_icmp .ne 10, 3) := by decide +kernel
theorem dX10_latest_45 : decode cX10_latest 45 = .ok (.aload_n 0, 1) := by decide +kernel
theorem dX10_latest_46 : decode cX10_latest 46 = .ok (.getfield 135, 3) := by decide +kernel
theorem dX10_latest_49 : decode cX10_latest 49 = .ok (.goto 19, 3) := by decide +kernel
theorem dX10_latest_52 : decode cX10_latest 52 = .ok (.iload_n 1, 1) := by decide +kernel
theorem dX10_latest_53 : decode cX10_latest 53 = .ok (.iconst 2, 1) := by decide +kernel
theorem dX10_latest_54 : decode cX10_latest 54 = .ok (.if_icmp .ne 10, 3) := by decide +kernel
theorem dX10_latest_57 : decode cX10_latest 57 = .ok (.aload_n 0, 1) := by decide +kernel
theorem dX10_latest_58 : decode cX10_latest 58 = .ok (.getfield 138, 3) := by decide +kernel
theorem dX10_latest_61 : decode cX10_latest 61 = .ok (.goto 7, 3) := by decide +kernel
theorem dX10_latest_64 : decode cX10_latest 64 = .ok (.aload_n 0, 1) := by decide +kernel
theorem dX10_latest_65 : decode cX10_latest 65 = .ok (.getfield 141, 3) := by decide +kernel
theorem dX10_latest_68 : decode cX10_latest 68 = .ok (.ireturn, 1) := by decide +kernel
theorem dX10_feed_0 : decode cX10_feed 0 = .ok (.aload_n 0, 1) := by decide +kernel
theorem dX10_feed_1 : decode cX10_feed 1 = .ok (.iconst 0, 1) := by decide +kernel
theorem dX10_feed_2 : decode cX10_feed 2 = .ok (.putfield 1, 3) := by decide +kernel
theorem dX10_feed_5 : decode cX10_feed 5 = .ok (.aload_n 0, 1) := by decide +kernel
theorem dX10_feed_6 : decode cX10_feed 6 = .ok (.getfield 198, 3) := by decide +kernel
theorem dX10_feed_9 : decode cX10_feed 9 = .ok (.bipush 20, 2) := by decide +kernel
theorem dX10_feed_11 : decode cX10_feed 11 = .ok (.iadd, 1) := by decide +kernel
theorem dX10_feed_12 : decode cX10_feed 12 = .ok (.sipush 400, 3) := by decide +kernel
theorem dX10_feed_15 : decode cX10_feed 15 = .ok (.if_icmp .le 5, 3) := by decide +kernel
theorem dX10_feed_18 : decode cX10_feed 18 = .ok (.iconst (-1), 1) := by decide +kernel
theorem dX10_feed_19 : decode cX10_feed 19 = .ok (.ireturn, 1) := by decide +kernel
theorem dX10_feed_20 : decode cX10_feed 20 = .ok (.aload_n 0, 1) := by decide +kernel
theorem dX10_feed_21 : decode cX10_feed 21 = .ok (.getfield 54, 3) := by decide +kernel
theorem dX10_feed_24 : decode cX10_feed 24 = .ok (.iconst 0, 1) := by decide +kernel
theorem dX10_feed_25 : decode cX10_feed 25 = .ok (.iload_n 1, 1) := by decide +kernel
theorem dX10_feed_26 : decode cX10_feed 26 = .ok (.iastore, 1) := by decide +kernel
theorem dX10_feed_27 : decode cX10_feed 27 = .ok (.aload_n 0, 1) := by decide +kernel
theorem dX10_feed_28 : decode cX10_feed 28 = .ok (.getfield 54, 3) := by decide +kernel
theorem dX10_feed_31 : decode cX10_feed 31 = .ok (.iconst 1, 1) := by decide +kernel
theorem dX10_feed_32 : decode cX10_feed 32 = .ok (.iload_n 2, 1) := by decide +kernel
theorem dX10_feed_33 : decode cX10_feed 33 = .ok (.iastore, 1) := by decide +kernel
theorem dX10_feed_34 : decode cX10_feed 34 = .ok (.aload_n 0, 1) := by decide +kernel
theorem dX10_feed_35 : decode cX10_feed 35 = .ok (.getfield 54, 3) := by decide +kernel
theorem dX10_feed_38 : decode cX10_feed 38 = .ok (.iconst 2, 1) := by decide +kernel
theorem dX10_feed_39 : decode cX10_feed 39 = .ok (.iload_n 3, 1) := by decide +kernel
theorem dX10_feed_40 : decode cX10_feed 40 = .ok (.iastore, 1) := by decide +kernel
theorem dX10_feed_41 : decode cX10_feed 41 = .ok (.aload_n 0, 1) := by decide +kernel
theorem dX10_feed_42 : decode cX10_feed 42 = .ok (.getfield 54, 3) := by decide +kernel
theorem dX10_feed_45 : decode cX10_feed 45 = .ok (.iconst 3, 1) := by decide +kernel
theorem dX10_feed_46 : decode cX10_feed 46 = .ok (.iload 4, 2) := by decide +kernel
theorem dX10_feed_48 : decode cX10_feed 48 = .ok (.iastore, 1) := by decide +kernel
theorem dX10_feed_49 : decode cX10_feed 49 = .ok (.aload_n 0, 1) := by decide +kernel
theorem dX10_feed_50 : decode cX10_feed 50 = .ok (.getfield 54, 3) := by decide +kernel
theorem dX10_feed_53 : decode cX10_feed 53 = .ok (.iconst 4, 1) := by decide +kernel
theorem dX10_feed_54 : decode cX10_feed 54 = .ok (.iload 5, 2) := by decide +kernel
theorem dX10_feed_56 : decode cX10_feed 56 = .ok (.iastore, 1) := by decide +kernel
theorem dX10_feed_57 : decode cX10_feed 57 = .ok (.iconst 0, 1) := by decide +kernel
theorem dX10_feed_58 : decode cX10_feed 58 = .ok (.istore 6, 2) := by decide +kernel
theorem dX10_feed_60 : decode cX10_feed 60 = .ok (.iload 6, 2) := by decide +kernel
theorem dX10_feed_62 : decode cX10_feed 62 = .ok (.bipush 20, 2) := by decide +kernel
theorem dX10_feed_64 : decode cX10_feed 64 = .ok (.if_icmp .ge 42, 3) := by decide +kernel
theorem dX10_feed_67 : decode cX10_feed 67 = .ok (.aload_n 0, 1) := by decide +kernel
theorem dX10_feed_68 : decode cX10_feed 68 = .ok (.getfield 47, 3) := by decide +kernel
theorem dX10_feed_71 : decode cX10_feed 71 = .ok (.aload_n 0, 1) := by decide +kernel
theorem dX10_feed_72 : decode cX10_feed 72 = .ok (.getfield 198, 3) := by decide +kernel
theorem dX10_feed_75 : decode cX10_feed 75 = .ok (.iload 6, 2) := by decide +kernel
theorem dX10_feed_77 : decode cX10_feed 77 = .ok (.iadd, 1) := by decide +kernel
theorem dX10_feed_78 : decode cX10_feed 78 = .ok (.aload_n 0, 1) := by decide +kernel
theorem dX10_feed_79 : decode cX10_feed 79 = .ok (.getfield 54, 3) := by decide +kernel
theorem dX10_feed_82 : decode cX10_feed 82 = .ok (.iload 6, 2) := by decide +kernel
theorem dX10_feed_84 : decode cX10_feed 84 = .ok (.iconst 4, 1) := by decide +kernel
theorem dX10_feed_85 : decode cX10_feed 85 = .ok (.idiv, 1) := by decide +kernel
theorem dX10_feed_86 : decode cX10_feed 86 = .ok (.iaload, 1) := by decide +kernel
theorem dX10_feed_87 : decode cX10_feed 87 = .ok (.bipush 24, 2) := by decide +kernel
theorem dX10_feed_89 : decode cX10_feed 89 = .ok (.bipush 8, 2) := by decide +kernel
theorem dX10_feed_91 : decode cX10_feed 91 = .ok (.iload 6, 2) := by decide +kernel
theorem dX10_feed_93 : decode cX10_feed 93 = .ok (.iconst 4, 1) := by decide +kernel
theorem dX10_feed_94 : decode cX10_feed 94 = .ok (.irem, 1) := by decide +kernel
theorem dX10_feed_95 : decode cX10_feed 95 = .ok (.imul, 1) := by decide +kernel
theorem dX10_feed_96 : decode cX10_feed 96 = .ok (.isub, 1) := by decide +kernel
theorem dX10_feed_97 : decode cX10_feed 97 = .ok (.ishr, 1) := by decide +kernel
theorem dX10_feed_98 : decode cX10_feed 98 = .ok (.i2b, 1) := by decide +kernel
theorem dX10_feed_99 : decode cX10_feed 99 = .ok (.bastore, 1) := by decide +kernel
theorem dX10_feed_100 : decode cX10_feed 100 = .ok (.iinc 6 1, 3) := by decide +kernel
theorem dX10_feed_103 : decode cX10_feed 103 = .ok (.goto (-43), 3) := by decide +kernel
theorem dX10_feed_106 : decode cX10_feed 106 = .ok (.aload_n 0, 1) := by decide +kernel
theorem dX10_feed_107 : decode cX10_feed 107 = .ok (.dup, 1) := by decide +kernel
theorem dX10_feed_108 : decode cX10_feed 108 = .ok (.getfield 198, 3) := by decide +kernel
theorem dX10_feed_111 : decode cX10_feed 111 = .ok (.bipush 20, 2) := by decide +kernel
theorem dX10_feed_113 : decode cX10_feed 113 = .ok (.iadd, 1) := by decide +kernel
theorem dX10_feed_114 : decode cX10_feed 114 = .ok (.putfield 198, 3) := by decide +kernel
theorem dX10_feed_117 : decode cX10_feed 117 = .ok (.aload_n 0, 1) := by decide +kernel
theorem dX10_feed_118 : decode cX10_feed 118 = .ok (.getfield 198, 3) := by decide +kernel
theorem dX10_feed_121 : decode cX10_feed 121 = .ok (.ireturn, 1) := by decide +kernel
theorem dX10_end_0 : decode cX10_end 0 = .ok (.aload_n 0, 1) := by decide +kernel
theorem dX10_end_1 : decode cX10_end 1 = .ok (.iconst 0, 1) := by decide +kernel
theorem dX10_end_2 : decode cX10_end 2 = .ok (.putfield 1, 3) := by decide +kernel
theorem dX10_end_5 : decode cX10_end 5 = .ok (.iload_n 1, 1) := by decide +kernel
theorem dX10_end_6 : decode cX10_end 6 = .ok (.ifCond .lt 11, 3) := by decide +kernel
theorem dX10_end_9 : decode cX10_end 9 = .ok (.iload_n 1, 1) := by decide +kernel
theorem dX10_end_10 : decode cX10_end 10 = .ok (.aload_n 0, 1) := by decide +kernel
theorem dX10_end_11 : decode cX10_end 11 = .ok (.getfield 198, 3) := by decide +kernel
theorem dX10_end_14 : decode cX10_end 14 = .ok (.if_icmp .le 5, 3) := by decide +kernel
theorem dX10_end_17 : decode cX10_end 17 = .ok (.iconst 0, 1) := by decide +kernel
theorem dX10_end_18 : decode cX10_end 18 = .ok (.ireturn, 1) := by decide +kernel
theorem dX10_end_19 : decode cX10_end 19 = .ok (.aload_n 0, 1) := by decide +kernel
theorem dX10_end_20 : decode cX10_end 20 = .ok (.iload_n 1, 1) := by decide +kernel
theorem dX10_end_21 : decode cX10_end 21 = .ok (.putfield 198, 3) := by decide +kernel
theorem dX10_end_24 : decode cX10_end 24 = .ok (.iconst 1, 1) := by decide +kernel
theorem dX10_end_25 : decode cX10_end 25 = .ok (.ireturn, 1) := by decide +kernel
theorem dX10_fault_0 : decode cX10_fault 0 = .ok (.aload_n 0, 1) := by decide +kernel
theorem dX10_fault_1 : decode cX10_fault 1 = .ok (.iconst 0, 1) := by decide +kernel
theorem dX10_fault_2 : decode cX10_fault 2 = .ok (.putfield 1, 3) := by decide +kernel
theorem dX10_fault_5 : decode cX10_fault 5 = .ok (.aload_n 0, 1) := by decide +kernel
theorem dX10_fault_6 : decode cX10_fault 6 = .ok (.getfield 51, 3) := by decide +kernel
theorem dX10_fault_9 : decode cX10_fault 9 = .ok (.ireturn, 1) := by decide +kernel
theorem dX10_isAt_0 : decode cX10_isAt 0 = .ok (.aload_n 0, 1) := by decide +kernel
theorem dX10_isAt_1 : decode cX10_isAt 1 = .ok (.getfield 201, 3) := by decide +kernel
theorem dX10_isAt_4 : decode cX10_isAt 4 = .ok (.aload_n 0, 1) := by decide +kernel
theorem dX10_isAt_5 : decode cX10_isAt 5 = .ok (.getfield 204, 3) := by decide +kernel
theorem dX10_isAt_8 : decode cX10_isAt 8 = .ok (.if_icmp .ge 33, 3) := by decide +kernel
theorem dX10_isAt_11 : decode cX10_isAt 11 = .ok (.aload_n 0, 1) := by decide +kernel
theorem dX10_isAt_12 : decode cX10_isAt 12 = .ok (.getfield 47, 3) := by decide +kernel
theorem dX10_isAt_15 : decode cX10_isAt 15 = .ok (.aload_n 0, 1) := by decide +kernel
theorem dX10_isAt_16 : decode cX10_isAt 16 = .ok (.getfield 201, 3) := by decide +kernel
theorem dX10_isAt_19 : decode cX10_isAt 19 = .ok (.baload, 1) := by decide +kernel
theorem dX10_isAt_20 : decode cX10_isAt 20 = .ok (.iload_n 1, 1) := by decide +kernel
theorem dX10_isAt_21 : decode cX10_isAt 21 = .ok (.if_icmp .lt 20, 3) := by decide +kernel
theorem dX10_isAt_24 : decode cX10_isAt 24 = .ok (.aload_n 0, 1) := by decide +kernel
theorem dX10_isAt_25 : decode cX10_isAt 25 = .ok (.getfield 47, 3) := by decide +kernel
theorem dX10_isAt_28 : decode cX10_isAt 28 = .ok (.aload_n 0, 1) := by decide +kernel
theorem dX10_isAt_29 : decode cX10_isAt 29 = .ok (.getfield 201, 3) := by decide +kernel
theorem dX10_isAt_32 : decode cX10_isAt 32 = .ok (.baload, 1) := by decide +kernel
theorem dX10_isAt_33 : decode cX10_isAt 33 = .ok (.iload_n 2, 1) := by decide +kernel
theorem dX10_isAt_34 : decode cX10_isAt 34 = .ok (.if_icmp .gt 7, 3) := by decide +kernel
theorem dX10_isAt_37 : decode cX10_isAt 37 = .ok (.iconst 1, 1) := by decide +kernel
theorem dX10_isAt_38 : decode cX10_isAt 38 = .ok (.goto 4, 3) := by decide +kernel
theorem dX10_isAt_41 : decode cX10_isAt 41 = .ok (.iconst 0, 1) := by decide +kernel
theorem dX10_isAt_42 : decode cX10_isAt 42 = .ok (.ireturn, 1) := by decide +kernel
theorem dX10_blanks_0 : decode cX10_blanks 0 = .ok (.aload_n 0, 1) := by decide +kernel
theorem dX10_blanks_1 : decode cX10_blanks 1 = .ok (.bipush 32, 2) := by decide +kernel
theorem dX10_blanks_3 : decode cX10_blanks 3 = .ok (.bipush 32, 2) := by decide +kernel
theorem dX10_blanks_5 : decode cX10_blanks 5 = .ok (.invokevirtual 207, 3) := by decide +kernel
theorem dX10_blanks_8 : decode cX10_blanks 8 = .ok (.ifCond .eq 16, 3) := by decide +kernel
theorem dX10_blanks_11 : decode cX10_blanks 11 = .ok (.aload_n 0, 1) := by decide +kernel
theorem dX10_blanks_12 : decode cX10_blanks 12 = .ok (.dup, 1) := by decide +kernel
theorem dX10_blanks_13 : decode cX10_blanks 13 = .ok (.getfield 201, 3) := by decide +kernel
theorem dX10_blanks_16 : decode cX10_blanks 16 = .ok (.iconst 1, 1) := by decide +kernel
theorem dX10_blanks_17 : decode cX10_blanks 17 = .ok (.iadd, 1) := by decide +kernel
theorem dX10_blanks_18 : decode cX10_blanks 18 = .ok (.putfield 201, 3) := by decide +kernel
theorem dX10_blanks_21 : decode cX10_blanks 21 = .ok (.goto (-21), 3) := by decide +kernel
theorem dX10_blanks_24 : decode cX10_blanks 24 = .ok (.aload_n 0, 1) := by decide +kernel
theorem dX10_blanks_25 : decode cX10_blanks 25 = .ok (.aload_n 0, 1) := by decide +kernel
theorem dX10_blanks_26 : decode cX10_blanks 26 = .ok (.getfield 201, 3) := by decide +kernel
theorem dX10_blanks_29 : decode cX10_blanks 29 = .ok (.putfield 210, 3) := by decide +kernel
theorem dX10_blanks_32 : decode cX10_blanks 32 = .ok (.return_, 1) := by decide +kernel
theorem dX10_letters_0 : decode cX10_letters 0 = .ok (.aload_n 0, 1) := by decide +kernel
theorem dX10_letters_1 : decode cX10_letters 1 = .ok (.invokevirtual 213, 3) := by decide +kernel
theorem dX10_letters_4 : decode cX10_letters 4 = .ok (.aload_n 0, 1) := by decide +kernel
theorem dX10_letters_5 : decode cX10_letters 5 = .ok (.bipush 97, 2) := by decide +kernel
theorem dX10_letters_7 : decode cX10_letters 7 = .ok (.bipush 122, 2) := by decide +kernel
theorem dX10_letters_9 : decode cX10_letters 9 = .ok (.invokevirtual 207, 3) := by decide +kernel
theorem dX10_letters_12 : decode cX10_letters 12 = .ok (.ifCond .eq 16, 3) := by decide +kernel
theorem dX10_letters_15 : decode cX10_letters 15 = .ok (.aload_n 0, 1) := by decide +kernel
theorem dX10_letters_16 : decode cX10_letters 16 = .ok (.dup, 1) := by decide +kernel
theorem dX10_letters_17 : decode cX10_letters 17 = .ok (.getfield 201, 3) := by decide +kernel
theorem dX10_letters_20 : decode cX10_letters 20 = .ok (.iconst 1, 1) := by decide +kernel
theorem dX10_letters_21 : decode cX10_letters 21 = .ok (.iadd, 1) := by decide +kernel
theorem dX10_letters_22 : decode cX10_letters 22 = .ok (.putfield 201, 3) := by decide +kernel
theorem dX10_letters_25 : decode cX10_letters 25 = .ok (.goto (-21), 3) := by decide +kernel
theorem dX10_letters_28 : decode cX10_letters 28 = .ok (.return_, 1) := by decide +kernel
theorem dX10_isWord_0 : decode cX10_isWord 0 = .ok (.aload_n 0, 1) := by decide +kernel
theorem dX10_isWord_1 : decode cX10_isWord 1 = .ok (.getfield 201, 3) := by decide +kernel
theorem dX10_isWord_4 : decode cX10_isWord 4 = .ok (.aload_n 0, 1) := by decide +kernel
theorem dX10_isWord_5 : decode cX10_isWord 5 = .ok (.getfield 210, 3) := by decide +kernel
theorem dX10_isWord_8 : decode cX10_isWord 8 = .ok (.isub, 1) := by decide +kernel
theorem dX10_isWord_9 : decode cX10_isWord 9 = .ok (.aload_n 1, 1) := by decide +kernel
theorem dX10_isWord_10 : decode cX10_isWord 10 = .ok (.invokevirtual 216, 3) := by decide +kernel
theorem dX10_isWord_13 : decode cX10_isWord 13 = .ok (.if_icmp .ne 7, 3) := by decide +kernel
theorem dX10_isWord_16 : decode cX10_isWord 16 = .ok (.iconst 1, 1) := by decide +kernel
theorem dX10_isWord_17 : decode cX10_isWord 17 = .ok (.goto 4, 3) := by decide +kernel
theorem dX10_isWord_20 : decode cX10_isWord 20 = .ok (.iconst 0, 1) := by decide +kernel
theorem dX10_isWord_21 : decode cX10_isWord 21 = .ok (.istore_n 2, 1) := by decide +kernel
theorem dX10_isWord_22 : decode cX10_isWord 22 = .ok (.iconst 0, 1) := by decide +kernel
theorem dX10_isWord_23 : decode cX10_isWord 23 = .ok (.istore_n 3, 1) := by decide +kernel
theorem dX10_isWord_24 : decode cX10_isWord 24 = .ok (.iload_n 2, 1) := by decide +kernel
theorem dX10_isWord_25 : decode cX10_isWord 25 = .ok (.ifCond .eq 42, 3) := by decide +kernel
theorem dX10_isWord_28 : decode cX10_isWord 28 = .ok (.iload_n 3, 1) := by decide +kernel
theorem dX10_isWord_29 : decode cX10_isWord 29 = .ok (.aload_n 1, 1) := by decide +kernel
theorem dX10_isWord_30 : decode cX10_isWord 30 = .ok (.invokevirtual 216, 3) := by decide +kernel
theorem dX10_isWord_33 : decode cX10_isWord 33 = .ok (.if_icmp .ge 34, 3) := by decide +kernel
theorem dX10_isWord_36 : decode cX10_isWord 36 = .ok (.aload_n 0, 1) := by decide +kernel
theorem dX10_isWord_37 : decode cX10_isWord 37 = .ok (.getfield 47, 3) := by decide +kernel
theorem dX10_isWord_40 : decode cX10_isWord 40 = .ok (.aload_n 0, 1) := by decide +kernel
theorem dX10_isWord_41 : decode cX10_isWord 41 = .ok (.getfield 210, 3) := by decide +kernel
theorem dX10_isWord_44 : decode cX10_isWord 44 = .ok (.iload_n 3, 1) := by decide +kernel
theorem dX10_isWord_45 : decode cX10_isWord 45 = .ok (.iadd, 1) := by decide +kernel
theorem dX10_isWord_46 : decode cX10_isWord 46 = .ok (.baload, 1) := by decide +kernel
theorem dX10_isWord_47 : decode cX10_isWord 47 = .ok (.aload_n 1, 1) := by decide +kernel
theorem dX10_isWord_48 : decode cX10_isWord 48 = .ok (.iload_n 3, 1) := by decide +kernel
theorem dX10_isWord_49 : decode cX10_isWord 49 = .ok (.invokevirtual 221, 3) := by decide +kernel
theorem dX10_isWord_52 : decode cX10_isWord 52 = .ok (.if_icmp .ne 7, 3) := by decide +kernel
theorem dX10_isWord_55 : decode cX10_isWord 55 = .ok (.iconst 1, 1) := by decide +kernel
theorem dX10_isWord_56 : decode cX10_isWord 56 = .ok (.goto 4, 3) := by decide +kernel
theorem dX10_isWord_59 : decode cX10_isWord 59 = .ok (.iconst 0, 1) := by decide +kernel
theorem dX10_isWord_60 : decode cX10_isWord 60 = .ok (.istore_n 2, 1) := by decide +kernel
theorem dX10_isWord_61 : decode cX10_isWord 61 = .ok (.iinc 3 1, 3) := by decide +kernel
theorem dX10_isWord_64 : decode cX10_isWord 64 = .ok (.goto (-40), 3) := by decide +kernel
theorem dX10_isWord_67 : decode cX10_isWord 67 = .ok (.iload_n 2, 1) := by decide +kernel
theorem dX10_isWord_68 : decode cX10_isWord 68 = .ok (.ireturn, 1) := by decide +kernel
theorem dX10_reads_0 : decode cX10_reads 0 = .ok (.aload_n 0, 1) := by decide +kernel
theorem dX10_reads_1 : decode cX10_reads 1 = .ok (.invokevirtual 213, 3) := by decide +kernel
theorem dX10_reads_4 : decode cX10_reads 4 = .ok (.iconst 0, 1) := by decide +kernel
theorem dX10_reads_5 : decode cX10_reads 5 = .ok (.istore 4, 2) := by decide +kernel
theorem dX10_reads_7 : decode cX10_reads 7 = .ok (.aload_n 0, 1) := by decide +kernel
theorem dX10_reads_8 : decode cX10_reads 8 = .ok (.bipush 48, 2) := by decide +kernel
theorem dX10_reads_10 : decode cX10_reads 10 = .ok (.bipush 57, 2) := by decide +kernel
theorem dX10_reads_12 : decode cX10_reads 12 = .ok (.invokevirtual 207, 3) := by decide +kernel
theorem dX10_reads_15 : decode cX10_reads 15 = .ok (.ifCond .eq 54, 3) := by decide +kernel
theorem dX10_reads_18 : decode cX10_reads 18 = .ok (.aload_n 0, 1) := by decide +kernel
theorem dX10_reads_19 : decode cX10_reads 19 = .ok (.getfield 201, 3) := by decide +kernel
theorem dX10_reads_22 : decode cX10_reads 22 = .ok (.aload_n 0, 1) := by decide +kernel
theorem dX10_reads_23 : decode cX10_reads 23 = .ok (.getfield 210, 3) := by decide +kernel
theorem dX10_reads_26 : decode cX10_reads 26 = .ok (.isub, 1) := by decide +kernel
theorem dX10_reads_27 : decode cX10_reads 27 = .ok (.iconst 2, 1) := by decide +kernel
theorem dX10_reads_28 : decode cX10_reads 28 = .ok (.if_icmp .ge 24, 3) := by decide +kernel
theorem dX10_reads_31 : decode cX10_reads 31 = .ok (.bipush 10, 2) := by decide +kernel
theorem dX10_reads_33 : decode cX10_reads 33 = .ok (.iload 4, 2) := by decide +kernel
theorem dX10_reads_35 : decode cX10_reads 35 = .ok (.imul, 1) := by decide +kernel
theorem dX10_reads_36 : decode cX10_reads 36 = .ok (.aload_n 0, 1) := by decide +kernel
theorem dX10_reads_37 : decode cX10_reads 37 = .ok (.getfield 47, 3) := by decide +kernel
theorem dX10_reads_40 : decode cX10_reads 40 = .ok (.aload_n 0, 1) := by decide +kernel
theorem dX10_reads_41 : decode cX10_reads 41 = .ok (.getfield 201, 3) := by decide +kernel
theorem dX10_reads_44 : decode cX10_reads 44 = .ok (.baload, 1) := by decide +kernel
theorem dX10_reads_45 : decode cX10_reads 45 = .ok (.iadd, 1) := by decide +kernel
theorem dX10_reads_46 : decode cX10_reads 46 = .ok (.bipush 48, 2) := by decide +kernel
theorem dX10_reads_48 : decode cX10_reads 48 = .ok (.isub, 1) := by decide +kernel
theorem dX10_reads_49 : decode cX10_reads 49 = .ok (.goto 5, 3) := by decide +kernel
theorem dX10_reads_52 : decode cX10_reads 52 = .ok (.iload 4, 2) := by decide +kernel
theorem dX10_reads_54 : decode cX10_reads 54 = .ok (.istore 4, 2) := by decide +kernel
theorem dX10_reads_56 : decode cX10_reads 56 = .ok (.aload_n 0, 1) := by decide +kernel
theorem dX10_reads_57 : decode cX10_reads 57 = .ok (.dup, 1) := by decide +kernel
theorem dX10_reads_58 : decode cX10_reads 58 = .ok (.getfield 201, 3) := by decide +kernel
theorem dX10_reads_61 : decode cX10_reads 61 = .ok (.iconst 1, 1) := by decide +kernel
theorem dX10_reads_62 : decode cX10_reads 62 = .ok (.iadd, 1) := by decide +kernel
theorem dX10_reads_63 : decode cX10_reads 63 = .ok (.putfield 201, 3) := by decide +kernel
theorem dX10_reads_66 : decode cX10_reads 66 = .ok (.goto (-59), 3) := by decide +kernel
theorem dX10_reads_69 : decode cX10_reads 69 = .ok (.aload_n 0, 1) := by decide +kernel
theorem dX10_reads_70 : decode cX10_reads 70 = .ok (.getfield 57, 3) := by decide +kernel
theorem dX10_reads_73 : decode cX10_reads 73 = .ok (.iload_n 1, 1) := by decide +kernel
theorem dX10_reads_74 : decode cX10_reads 74 = .ok (.iload 4, 2) := by decide +kernel
theorem dX10_reads_76 : decode cX10_reads 76 = .ok (.iastore, 1) := by decide +kernel
theorem dX10_reads_77 : decode cX10_reads 77 = .ok (.aload_n 0, 1) := by decide +kernel
theorem dX10_reads_78 : decode cX10_reads 78 = .ok (.getfield 201, 3) := by decide +kernel
theorem dX10_reads_81 : decode cX10_reads 81 = .ok (.aload_n 0, 1) := by decide +kernel
theorem dX10_reads_82 : decode cX10_reads 82 = .ok (.getfield 210, 3) := by decide +kernel
theorem dX10_reads_85 : decode cX10_reads 85 = .ok (.isub, 1) := by decide +kernel
theorem dX10_reads_86 : decode cX10_reads 86 = .ok (.iconst 1, 1) := by decide +kernel
theorem dX10_reads_87 : decode cX10_reads 87 = .ok (.iconst 2, 1) := by decide +kernel
theorem dX10_reads_88 : decode cX10_reads 88 = .ok (.invokestatic 84, 3) := by decide +kernel
theorem dX10_reads_91 : decode cX10_reads 91 = .ok (.ifCond .eq 17, 3) := by decide +kernel
theorem dX10_reads_94 : decode cX10_reads 94 = .ok (.iload 4, 2) := by decide +kernel
theorem dX10_reads_96 : decode cX10_reads 96 = .ok (.iload_n 2, 1) := by decide +kernel
theorem dX10_reads_97 : decode cX10_reads 97 = .ok (.iload_n 3, 1) := by decide +kernel
theorem dX10_reads_98 : decode cX10_reads 98 = .ok (.invokestatic 84, 3) := by decide +kernel
theorem dX10_reads_101 : decode cX10_reads 101 = .ok (.ifCond .eq 7, 3) := by decide +kernel
theorem dX10_reads_104 : decode cX10_reads 104 = .ok (.iconst 1, 1) := by decide +kernel
theorem dX10_reads_105 : decode cX10_reads 105 = .ok (.goto 4, 3) := by decide +kernel
theorem dX10_reads_108 : decode cX10_reads 108 = .ok (.iconst 0, 1) := by decide +kernel
theorem dX10_reads_109 : decode cX10_reads 109 = .ok (.ireturn, 1) := by decide +kernel
theorem dX10_comma_0 : decode cX10_comma 0 = .ok (.aload_n 0, 1) := by decide +kernel
theorem dX10_comma_1 : decode cX10_comma 1 = .ok (.invokevirtual 213, 3) := by decide +kernel
theorem dX10_comma_4 : decode cX10_comma 4 = .ok (.aload_n 0, 1) := by decide +kernel
theorem dX10_comma_5 : decode cX10_comma 5 = .ok (.bipush 44, 2) := by decide +kernel
theorem dX10_comma_7 : decode cX10_comma 7 = .ok (.bipush 44, 2) := by decide +kernel
theorem dX10_comma_9 : decode cX10_comma 9 = .ok (.invokevirtual 207, 3) := by decide +kernel
theorem dX10_comma_12 : decode cX10_comma 12 = .ok (.ifCond .ne 5, 3) := by decide +kernel
theorem dX10_comma_15 : decode cX10_comma 15 = .ok (.iconst 0, 1) := by decide +kernel
theorem dX10_comma_16 : decode cX10_comma 16 = .ok (.ireturn, 1) := by decide +kernel
theorem dX10_comma_17 : decode cX10_comma 17 = .ok (.aload_n 0, 1) := by decide +kernel
theorem dX10_comma_18 : decode cX10_comma 18 = .ok (.dup, 1) := by decide +kernel
theorem dX10_comma_19 : decode cX10_comma 19 = .ok (.getfield 201, 3) := by decide +kernel
theorem dX10_comma_22 : decode cX10_comma 22 = .ok (.iconst 1, 1) := by decide +kernel
theorem dX10_comma_23 : decode cX10_comma 23 = .ok (.iadd, 1) := by decide +kernel
theorem dX10_comma_24 : decode cX10_comma 24 = .ok (.putfield 201, 3) := by decide +kernel
theorem dX10_comma_27 : decode cX10_comma 27 = .ok (.iconst 1, 1) := by decide +kernel
theorem dX10_comma_28 : decode cX10_comma 28 = .ok (.ireturn, 1) := by decide +kernel
theorem dX10_readsMany_0 : decode cX10_readsMany 0 = .ok (.iconst 0, 1) := by decide +kernel
theorem dX10_readsMany_1 : decode cX10_readsMany 1 = .ok (.istore_n 3, 1) := by decide +kernel
theorem dX10_readsMany_2 : decode cX10_readsMany 2 = .ok (.iconst 0, 1) := by decide +kernel
theorem dX10_readsMany_3 : decode cX10_readsMany 3 = .ok (.istore 4, 2) := by decide +kernel
theorem dX10_readsMany_5 : decode cX10_readsMany 5 = .ok (.iload 4, 2) := by decide +kernel
theorem dX10_readsMany_7 : decode cX10_readsMany 7 = .ok (.iload_n 1, 1) := by decide +kernel
theorem dX10_readsMany_8 : decode cX10_readsMany 8 = .ok (.if_icmp .ge 24, 3) := by decide +kernel
theorem dX10_readsMany_11 : decode cX10_readsMany 11 = .ok (.aload_n 0, 1) := by decide +kernel
theorem dX10_readsMany_12 : decode cX10_readsMany 12 = .ok (.iload_n 3, 1) := by decide +kernel
theorem dX10_readsMany_13 : decode cX10_readsMany 13 = .ok (.iconst 0, 1) := by decide +kernel
theorem dX10_readsMany_14 : decode cX10_readsMany 14 = .ok (.iload_n 2, 1) := by decide +kernel
theorem dX10_readsMany_15 : decode cX10_readsMany 15 = .ok (.invokevirtual 225, 3) := by decide +kernel
theorem dX10_readsMany_18 : decode cX10_readsMany 18 = .ok (.ifCond .ne 5, 3) := by decide +kernel
theorem dX10_readsMany_21 : decode cX10_readsMany 21 = .ok (.iconst (-1), 1) := by decide +kernel
theorem dX10_readsMany_22 : decode cX10_readsMany 22 = .ok (.ireturn, 1) := by decide +kernel
theorem dX10_readsMany_23 : decode cX10_readsMany 23 = .ok (.iinc 3 1, 3) := by decide +kernel
theorem dX10_readsMany_26 : decode cX10_readsMany 26 = .ok (.iinc 4 1, 3) := by decide +kernel
theorem dX10_readsMany_29 : decode cX10_readsMany 29 = .ok (.goto (-24), 3) := by decide +kernel
theorem dX10_readsMany_32 : decode cX10_readsMany 32 = .ok (.aload_n 0, 1) := by decide +kernel
theorem dX10_readsMany_33 : decode cX10_readsMany 33 = .ok (.invokevirtual 228, 3) := by decide +kernel
theorem dX10_readsMany_36 : decode cX10_readsMany 36 = .ok (.ifCond .ne (-34), 3) := by decide +kernel
theorem dX10_readsMany_39 : decode cX10_readsMany 39 = .ok (.iload_n 3, 1) := by decide +kernel
theorem dX10_readsMany_40 : decode cX10_readsMany 40 = .ok (.ireturn, 1) := by decide +kernel
theorem dX10_readsLay_0 : decode cX10_readsLay 0 = .ok (.aload_n 0, 1) := by decide +kernel
theorem dX10_readsLay_1 : decode cX10_readsLay 1 = .ok (.iconst 2, 1) := by decide +kernel
theorem dX10_readsLay_2 : decode cX10_readsLay 2 = .ok (.bipush 15, 2) := by decide +kernel
theorem dX10_readsLay_4 : decode cX10_readsLay 4 = .ok (.invokevirtual 232, 3) := by decide +kernel
theorem dX10_readsLay_7 : decode cX10_readsLay 7 = .ok (.istore_n 1, 1) := by decide +kernel
theorem dX10_readsLay_8 : decode cX10_readsLay 8 = .ok (.iconst 0, 1) := by decide +kernel
theorem dX10_readsLay_9 : decode cX10_readsLay 9 = .ok (.istore_n 2, 1) := by decide +kernel
theorem dX10_readsLay_10 : decode cX10_readsLay 10 = .ok (.iload_n 2, 1) := by decide +kernel
theorem dX10_readsLay_11 : decode cX10_readsLay 11 = .ok (.iload_n 1, 1) := by decide +kernel
theorem dX10_readsLay_12 : decode cX10_readsLay 12 = .ok (.if_icmp .ge 68, 3) := by decide +kernel
theorem dX10_readsLay_15 : decode cX10_readsLay 15 = .ok (.aload_n 0, 1) := by decide +kernel
theorem dX10_readsLay_16 : decode cX10_readsLay 16 = .ok (.getfield 235, 3) := by decide +kernel
theorem dX10_readsLay_19 : decode cX10_readsLay 19 = .ok (.ifCond .ne 61, 3) := by decide +kernel
theorem dX10_readsLay_22 : decode cX10_readsLay 22 = .ok (.aload_n 0, 1) := by decide +kernel
theorem dX10_readsLay_23 : decode cX10_readsLay 23 = .ok (.aload_n 0, 1) := by decide +kernel
theorem dX10_readsLay_24 : decode cX10_readsLay 24 = .ok (.aload_n 0, 1) := by decide +kernel
theorem dX10_readsLay_25 : decode cX10_readsLay 25 = .ok (.getfield 57, 3) := by decide +kernel
theorem dX10_readsLay_28 : decode cX10_readsLay 28 = .ok (.iload_n 2, 1) := by decide +kernel
theorem dX10_readsLay_29 : decode cX10_readsLay 29 = .ok (.iaload, 1) := by decide +kernel
theorem dX10_readsLay_30 : decode cX10_readsLay 30 = .ok (.aload_n 0, 1) := by decide +kernel
theorem dX10_readsLay_31 : decode cX10_readsLay 31 = .ok (.getfield 57, 3) := by decide +kernel
theorem dX10_readsLay_34 : decode cX10_readsLay 34 = .ok (.iload_n 2, 1) := by decide +kernel
theorem dX10_readsLay_35 : decode cX10_readsLay 35 = .ok (.iconst 1, 1) := by decide +kernel
theorem dX10_readsLay_36 : decode cX10_readsLay 36 = .ok (.iadd, 1) := by decide +kernel
theorem dX10_readsLay_37 : decode cX10_readsLay 37 = .ok (.iaload, 1) := by decide +kernel
theorem dX10_readsLay_38 : decode cX10_readsLay 38 = .ok (.invokevirtual 186, 3) := by decide +kernel
theorem dX10_readsLay_41 : decode cX10_readsLay 41 = .ok (.putfield 235, 3) := by decide +kernel
theorem dX10_readsLay_44 : decode cX10_readsLay 44 = .ok (.aload_n 0, 1) := by decide +kernel
theorem dX10_readsLay_45 : decode cX10_readsLay 45 = .ok (.getfield 235, 3) := by decide +kernel
theorem dX10_readsLay_48 : decode cX10_readsLay 48 = .ok (.ifCond .ne 24, 3) := by decide +kernel
theorem dX10_readsLay_51 : decode cX10_readsLay 51 = .ok (.aload_n 0, 1) := by decide +kernel
theorem dX10_readsLay_52 : decode cX10_readsLay 52 = .ok (.aload_n 0, 1) := by decide +kernel
theorem dX10_readsLay_53 : decode cX10_readsLay 53 = .ok (.getfield 57, 3) := by decide +kernel
theorem dX10_readsLay_56 : decode cX10_readsLay 56 = .ok (.iload_n 2, 1) := by decide +kernel
theorem dX10_readsLay_57 : decode cX10_readsLay 57 = .ok (.iaload, 1) := by decide +kernel
theorem dX10_readsLay_58 : decode cX10_readsLay 58 = .ok (.aload_n 0, 1) := by decide +kernel
theorem dX10_readsLay_59 : decode cX10_readsLay 59 = .ok (.getfield 57, 3) := by decide +kernel
theorem dX10_readsLay_62 : decode cX10_readsLay 62 = .ok (.iload_n 2, 1) := by decide +kernel
theorem dX10_readsLay_63 : decode cX10_readsLay 63 = .ok (.iconst 1, 1) := by decide +kernel
theorem dX10_readsLay_64 : decode cX10_readsLay 64 = .ok (.iadd, 1) := by decide +kernel
theorem dX10_readsLay_65 : decode cX10_readsLay 65 = .ok (.iaload, 1) := by decide +kernel
theorem dX10_readsLay_66 : decode cX10_readsLay 66 = .ok (.invokevirtual 189, 3) := by decide +kernel
theorem dX10_readsLay_69 : decode cX10_readsLay 69 = .ok (.goto 4, 3) := by decide +kernel
theorem dX10_readsLay_72 : decode cX10_readsLay 72 = .ok (.iconst (-1), 1) := by decide +kernel
theorem dX10_readsLay_73 : decode cX10_readsLay 73 = .ok (.istore_n 3, 1) := by decide +kernel
theorem dX10_readsLay_74 : decode cX10_readsLay 74 = .ok (.iinc 2 2, 3) := by decide +kernel
theorem dX10_readsLay_77 : decode cX10_readsLay 77 = .ok (.goto (-67), 3) := by decide +kernel
theorem dX10_readsLay_80 : decode cX10_readsLay 80 = .ok (.iload_n 1, 1) := by decide +kernel
theorem dX10_readsLay_81 : decode cX10_readsLay 81 = .ok (.iconst (-1), 1) := by decide +kernel
theorem dX10_readsLay_82 : decode cX10_readsLay 82 = .ok (.if_icmp .eq 7, 3) := by decide +kernel
theorem dX10_readsLay_85 : decode cX10_readsLay 85 = .ok (.iconst 1, 1) := by decide +kernel
theorem dX10_readsLay_86 : decode cX10_readsLay 86 = .ok (.goto 4, 3) := by decide +kernel
theorem dX10_readsLay_89 : decode cX10_readsLay 89 = .ok (.iconst 0, 1) := by decide +kernel
theorem dX10_readsLay_90 : decode cX10_readsLay 90 = .ok (.ireturn, 1) := by decide +kernel
theorem dX10_readsTurn_0 : decode cX10_readsTurn 0 = .ok (.aload_n 0, 1) := by decide +kernel
theorem dX10_readsTurn_1 : decode cX10_readsTurn 1 = .ok (.iconst 1, 1) := by decide +kernel
theorem dX10_readsTurn_2 : decode cX10_readsTurn 2 = .ok (.bipush 59, 2) := by decide +kernel
theorem dX10_readsTurn_4 : decode cX10_readsTurn 4 = .ok (.invokevirtual 232, 3) := by decide +kernel
theorem dX10_readsTurn_7 : decode cX10_readsTurn 7 = .ok (.istore_n 2, 1) := by decide +kernel
theorem dX10_readsTurn_8 : decode cX10_readsTurn 8 = .ok (.iconst 0, 1) := by decide +kernel
theorem dX10_readsTurn_9 : decode cX10_readsTurn 9 = .ok (.istore_n 3, 1) := by decide +kernel
theorem dX10_readsTurn_10 : decode cX10_readsTurn 10 = .ok (.iload_n 3, 1) := by decide +kernel
theorem dX10_readsTurn_11 : decode cX10_readsTurn 11 = .ok (.iload_n 2, 1) := by decide +kernel
theorem dX10_readsTurn_12 : decode cX10_readsTurn 12 = .ok (.if_icmp .ge 54, 3) := by decide +kernel
theorem dX10_readsTurn_15 : decode cX10_readsTurn 15 = .ok (.aload_n 0, 1) := by decide +kernel
theorem dX10_readsTurn_16 : decode cX10_readsTurn 16 = .ok (.getfield 235, 3) := by decide +kernel
theorem dX10_readsTurn_19 : decode cX10_readsTurn 19 = .ok (.ifCond .ne 47, 3) := by decide +kernel
theorem dX10_readsTurn_22 : decode cX10_readsTurn 22 = .ok (.aload_n 0, 1) := by decide +kernel
theorem dX10_readsTurn_23 : decode cX10_readsTurn 23 = .ok (.aload_n 0, 1) := by decide +kernel
theorem dX10_readsTurn_24 : decode cX10_readsTurn 24 = .ok (.aload_n 0, 1) := by decide +kernel
theorem dX10_readsTurn_25 : decode cX10_readsTurn 25 = .ok (.getfield 57, 3) := by decide +kernel
theorem dX10_readsTurn_28 : decode cX10_readsTurn 28 = .ok (.iload_n 3, 1) := by decide +kernel
theorem dX10_readsTurn_29 : decode cX10_readsTurn 29 = .ok (.iaload, 1) := by decide +kernel
theorem dX10_readsTurn_30 : decode cX10_readsTurn 30 = .ok (.iload_n 1, 1) := by decide +kernel
theorem dX10_readsTurn_31 : decode cX10_readsTurn 31 = .ok (.invokevirtual 192, 3) := by decide +kernel
theorem dX10_readsTurn_34 : decode cX10_readsTurn 34 = .ok (.putfield 235, 3) := by decide +kernel
theorem dX10_readsTurn_37 : decode cX10_readsTurn 37 = .ok (.aload_n 0, 1) := by decide +kernel
theorem dX10_readsTurn_38 : decode cX10_readsTurn 38 = .ok (.getfield 235, 3) := by decide +kernel
theorem dX10_readsTurn_41 : decode cX10_readsTurn 41 = .ok (.ifCond .ne 19, 3) := by decide +kernel
theorem dX10_readsTurn_44 : decode cX10_readsTurn 44 = .ok (.aload_n 0, 1) := by decide +kernel
theorem dX10_readsTurn_45 : decode cX10_readsTurn 45 = .ok (.getfield 13, 3) := by decide +kernel
theorem dX10_readsTurn_48 : decode cX10_readsTurn 48 = .ok (.sipush 140, 3) := by decide +kernel
theorem dX10_readsTurn_51 : decode cX10_readsTurn 51 = .ok (.aload_n 0, 1) := by decide +kernel
theorem dX10_readsTurn_52 : decode cX10_readsTurn 52 = .ok (.getfield 57, 3) := by decide +kernel
theorem dX10_readsTurn_55 : decode cX10_readsTurn 55 = .ok (.iload_n 3, 1) := by decide +kernel
theorem dX10_readsTurn_56 : decode cX10_readsTurn 56 = .ok (.iaload, 1) := by decide +kernel
theorem dX10_readsTurn_57 : decode cX10_readsTurn 57 = .ok (.iadd, 1) := by decide +kernel
theorem dX10_readsTurn_58 : decode cX10_readsTurn 58 = .ok (.iload_n 1, 1) := by decide +kernel
theorem dX10_readsTurn_59 : decode cX10_readsTurn 59 = .ok (.iastore, 1) := by decide +kernel
theorem dX10_readsTurn_60 : decode cX10_readsTurn 60 = .ok (.iinc 3 1, 3) := by decide +kernel
theorem dX10_readsTurn_63 : decode cX10_readsTurn 63 = .ok (.goto (-53), 3) := by decide +kernel
theorem dX10_readsTurn_66 : decode cX10_readsTurn 66 = .ok (.iload_n 2, 1) := by decide +kernel
theorem dX10_readsTurn_67 : decode cX10_readsTurn 67 = .ok (.iconst (-1), 1) := by decide +kernel
theorem dX10_readsTurn_68 : decode cX10_readsTurn 68 = .ok (.if_icmp .eq 7, 3) := by decide +kernel
theorem dX10_readsTurn_71 : decode cX10_readsTurn 71 = .ok (.iconst 1, 1) := by decide +kernel
theorem dX10_readsTurn_72 : decode cX10_readsTurn 72 = .ok (.goto 4, 3) := by decide +kernel
theorem dX10_readsTurn_75 : decode cX10_readsTurn 75 = .ok (.iconst 0, 1) := by decide +kernel
theorem dX10_readsTurn_76 : decode cX10_readsTurn 76 = .ok (.ireturn, 1) := by decide +kernel
theorem dX10_readsPlace_0 : decode cX10_readsPlace 0 = .ok (.aload_n 0, 1) := by decide +kernel
theorem dX10_readsPlace_1 : decode cX10_readsPlace 1 = .ok (.iconst 0, 1) := by decide +kernel
theorem dX10_readsPlace_2 : decode cX10_readsPlace 2 = .ok (.iconst 0, 1) := by decide +kernel
theorem dX10_readsPlace_3 : decode cX10_readsPlace 3 = .ok (.bipush 15, 2) := by decide +kernel
theorem dX10_readsPlace_5 : decode cX10_readsPlace 5 = .ok (.invokevirtual 225, 3) := by decide +kernel
theorem dX10_readsPlace_8 : decode cX10_readsPlace 8 = .ok (.ifCond .ne 5, 3) := by decide +kernel
theorem dX10_readsPlace_11 : decode cX10_readsPlace 11 = .ok (.iconst 0, 1) := by decide +kernel
theorem dX10_readsPlace_12 : decode cX10_readsPlace 12 = .ok (.ireturn, 1) := by decide +kernel
theorem dX10_readsPlace_13 : decode cX10_readsPlace 13 = .ok (.aload_n 0, 1) := by decide +kernel
theorem dX10_readsPlace_14 : decode cX10_readsPlace 14 = .ok (.aload_n 0, 1) := by decide +kernel
theorem dX10_readsPlace_15 : decode cX10_readsPlace 15 = .ok (.aload_n 0, 1) := by decide +kernel
theorem dX10_readsPlace_16 : decode cX10_readsPlace 16 = .ok (.getfield 57, 3) := by decide +kernel
theorem dX10_readsPlace_19 : decode cX10_readsPlace 19 = .ok (.iconst 0, 1) := by decide +kernel
theorem dX10_readsPlace_20 : decode cX10_readsPlace 20 = .ok (.iaload, 1) := by decide +kernel
theorem dX10_readsPlace_21 : decode cX10_readsPlace 21 = .ok (.iload_n 1, 1) := by decide +kernel
theorem dX10_readsPlace_22 : decode cX10_readsPlace 22 = .ok (.invokevirtual 177, 3) := by decide +kernel
theorem dX10_readsPlace_25 : decode cX10_readsPlace 25 = .ok (.putfield 235, 3) := by decide +kernel
theorem dX10_readsPlace_28 : decode cX10_readsPlace 28 = .ok (.aload_n 0, 1) := by decide +kernel
theorem dX10_readsPlace_29 : decode cX10_readsPlace 29 = .ok (.getfield 235, 3) := by decide +kernel
theorem dX10_readsPlace_32 : decode cX10_readsPlace 32 = .ok (.ifCond .ne 15, 3) := by decide +kernel
theorem dX10_readsPlace_35 : decode cX10_readsPlace 35 = .ok (.aload_n 0, 1) := by decide +kernel
theorem dX10_readsPlace_36 : decode cX10_readsPlace 36 = .ok (.getfield 13, 3) := by decide +kernel
theorem dX10_readsPlace_39 : decode cX10_readsPlace 39 = .ok (.iload_n 1, 1) := by decide +kernel
theorem dX10_readsPlace_40 : decode cX10_readsPlace 40 = .ok (.aload_n 0, 1) := by decide +kernel
theorem dX10_readsPlace_41 : decode cX10_readsPlace 41 = .ok (.getfield 57, 3) := by decide +kernel
theorem dX10_readsPlace_44 : decode cX10_readsPlace 44 = .ok (.iconst 0, 1) := by decide +kernel
theorem dX10_readsPlace_45 : decode cX10_readsPlace 45 = .ok (.iaload, 1) := by decide +kernel
theorem dX10_readsPlace_46 : decode cX10_readsPlace 46 = .ok (.iastore, 1) := by decide +kernel
theorem dX10_readsPlace_47 : decode cX10_readsPlace 47 = .ok (.iconst 1, 1) := by decide +kernel
theorem dX10_readsPlace_48 : decode cX10_readsPlace 48 = .ok (.ireturn, 1) := by decide +kernel
theorem dX10_readAct_0 : decode cX10_readAct 0 = .ok (.aload_n 0, 1) := by decide +kernel
theorem dX10_readAct_1 : decode cX10_readAct 1 = .ok (.invokevirtual 238, 3) := by decide +kernel
theorem dX10_readAct_4 : decode cX10_readAct 4 = .ok (.aload_n 0, 1) := by decide +kernel
theorem dX10_readAct_5 : decode cX10_readAct 5 = .ok (.ldc 241, 2) := by decide +kernel
theorem dX10_readAct_7 : decode cX10_readAct 7 = .ok (.invokevirtual 243, 3) := by decide +kernel
theorem dX10_readAct_10 : decode cX10_readAct 10 = .ok (.ifCond .eq 28, 3) := by decide +kernel
theorem dX10_readAct_13 : decode cX10_readAct 13 = .ok (.aload_n 0, 1) := by decide +kernel
theorem dX10_readAct_14 : decode cX10_readAct 14 = .ok (.iconst 0, 1) := by decide +kernel
theorem dX10_readAct_15 : decode cX10_readAct 15 = .ok (.iconst 2, 1) := by decide +kernel
theorem dX10_readAct_16 : decode cX10_readAct 16 = .ok (.bipush 16, 2) := by decide +kernel
theorem dX10_readAct_18 : decode cX10_readAct 18 = .ok (.invokevirtual 225, 3) := by decide +kernel
theorem dX10_readAct_21 : decode cX10_readAct 21 = .ok (.ifCond .ne 5, 3) := by decide +kernel
theorem dX10_readAct_24 : decode cX10_readAct 24 = .ok (.iconst 0, 1) := by decide +kernel
theorem dX10_readAct_25 : decode cX10_readAct 25 = .ok (.ireturn, 1) := by decide +kernel
theorem dX10_readAct_26 : decode cX10_readAct 26 = .ok (.aload_n 0, 1) := by decide +kernel
theorem dX10_readAct_27 : decode cX10_readAct 27 = .ok (.aload_n 0, 1) := by decide +kernel
theorem dX10_readAct_28 : decode cX10_readAct 28 = .ok (.getfield 57, 3) := by decide +kernel
theorem dX10_readAct_31 : decode cX10_readAct 31 = .ok (.iconst 0, 1) := by decide +kernel
theorem dX10_readAct_32 : decode cX10_readAct 32 = .ok (.iaload, 1) := by decide +kernel
theorem dX10_readAct_33 : decode cX10_readAct 33 = .ok (.invokevirtual 76, 3) := by decide +kernel
theorem dX10_readAct_36 : decode cX10_readAct 36 = .ok (.iconst 1, 1) := by decide +kernel
theorem dX10_readAct_37 : decode cX10_readAct 37 = .ok (.ireturn, 1) := by decide +kernel
theorem dX10_readAct_38 : decode cX10_readAct 38 = .ok (.aload_n 0, 1) := by decide +kernel
theorem dX10_readAct_39 : decode cX10_readAct 39 = .ok (.ldc 247, 2) := by decide +kernel
theorem dX10_readAct_41 : decode cX10_readAct 41 = .ok (.invokevirtual 243, 3) := by decide +kernel
theorem dX10_readAct_44 : decode cX10_readAct 44 = .ok (.ifCond .eq 9, 3) := by decide +kernel
theorem dX10_readAct_47 : decode cX10_readAct 47 = .ok (.aload_n 0, 1) := by decide +kernel
theorem dX10_readAct_48 : decode cX10_readAct 48 = .ok (.iconst 1, 1) := by decide +kernel
theorem dX10_readAct_49 : decode cX10_readAct 49 = .ok (.invokevirtual 248, 3) := by decide +kernel
theorem dX10_readAct_52 : decode cX10_readAct 52 = .ok (.ireturn, 1) := by decide +kernel
theorem dX10_readAct_53 : decode cX10_readAct 53 = .ok (.aload_n 0, 1) := by decide +kernel
theorem dX10_readAct_54 : decode cX10_readAct 54 = .ok (.ldc 251, 2) := by decide +kernel
theorem dX10_readAct_56 : decode cX10_readAct 56 = .ok (.invokevirtual 243, 3) := by decide +kernel
theorem dX10_readAct_59 : decode cX10_readAct 59 = .ok (.ifCond .eq 9, 3) := by decide +kernel
theorem dX10_readAct_62 : decode cX10_readAct 62 = .ok (.aload_n 0, 1) := by decide +kernel
theorem dX10_readAct_63 : decode cX10_readAct 63 = .ok (.iconst 2, 1) := by decide +kernel
theorem dX10_readAct_64 : decode cX10_readAct 64 = .ok (.invokevirtual 248, 3) := by decide +kernel
theorem dX10_readAct_67 : decode cX10_readAct 67 = .ok (.ireturn, 1) := by decide +kernel
theorem dX10_readAct_68 : decode cX10_readAct 68 = .ok (.aload_n 0, 1) := by decide +kernel
theorem dX10_readAct_69 : decode cX10_readAct 69 = .ok (.ldc 253, 2) := by decide +kernel
theorem dX10_readAct_71 : decode cX10_readAct 71 = .ok (.invokevirtual 243, 3) := by decide +kernel
theorem dX10_readAct_74 : decode cX10_readAct 74 = .ok (.ifCond .eq 8, 3) := by decide +kernel
theorem dX10_readAct_77 : decode cX10_readAct 77 = .ok (.aload_n 0, 1) := by decide +kernel
theorem dX10_readAct_78 : decode cX10_readAct 78 = .ok (.invokevirtual 255, 3) := by decide +kernel
theorem dX10_readAct_81 : decode cX10_readAct 81 = .ok (.ireturn, 1) := by decide +kernel
theorem dX10_readAct_82 : decode cX10_readAct 82 = .ok (.aload_n 0, 1) := by decide +kernel
theorem dX10_readAct_83 : decode cX10_readAct 83 = .ok (.ldc_w 258, 3) := by decide +kernel
theorem dX10_readAct_86 : decode cX10_readAct 86 = .ok (.invokevirtual 243, 3) := by decide +kernel
theorem dX10_readAct_89 : decode cX10_readAct 89 = .ok (.ifCond .eq 9, 3) := by decide +kernel
theorem dX10_readAct_92 : decode cX10_readAct 92 = .ok (.aload_n 0, 1) := by decide +kernel
theorem dX10_readAct_93 : decode cX10_readAct 93 = .ok (.iconst 0, 1) := by decide +kernel
theorem dX10_readAct_94 : decode cX10_readAct 94 = .ok (.invokevirtual 260, 3) := by decide +kernel
theorem dX10_readAct_97 : decode cX10_readAct 97 = .ok (.ireturn, 1) := by decide +kernel
theorem dX10_readAct_98 : decode cX10_readAct 98 = .ok (.aload_n 0, 1) := by decide +kernel
theorem dX10_readAct_99 : decode cX10_readAct 99 = .ok (.ldc_w 263, 3) := by decide +kernel
theorem dX10_readAct_102 : decode cX10_readAct 102 = .ok (.invokevirtual 243, 3) := by decide +kernel
theorem dX10_readAct_105 : decode cX10_readAct 105 = .ok (.ifCond .eq 9, 3) := by decide +kernel
theorem dX10_readAct_108 : decode cX10_readAct 108 = .ok (.aload_n 0, 1) := by decide +kernel
theorem dX10_readAct_109 : decode cX10_readAct 109 = .ok (.iconst 1, 1) := by decide +kernel
theorem dX10_readAct_110 : decode cX10_readAct 110 = .ok (.invokevirtual 260, 3) := by decide +kernel
theorem dX10_readAct_113 : decode cX10_readAct 113 = .ok (.ireturn, 1) := by decide +kernel
theorem dX10_readAct_114 : decode cX10_readAct 114 = .ok (.aload_n 0, 1) := by decide +kernel
theorem dX10_readAct_115 : decode cX10_readAct 115 = .ok (.ldc_w 265, 3) := by decide +kernel
theorem dX10_readAct_118 : decode cX10_readAct 118 = .ok (.invokevirtual 243, 3) := by decide +kernel
theorem dX10_readAct_121 : decode cX10_readAct 121 = .ok (.ifCond .eq 25, 3) := by decide +kernel
theorem dX10_readAct_124 : decode cX10_readAct 124 = .ok (.aload_n 0, 1) := by decide +kernel
theorem dX10_readAct_125 : decode cX10_readAct 125 = .ok (.iconst 0, 1) := by decide +kernel
theorem dX10_readAct_126 : decode cX10_readAct 126 = .ok (.iconst 0, 1) := by decide +kernel
theorem dX10_readAct_127 : decode cX10_readAct 127 = .ok (.bipush 15, 2) := by decide +kernel
theorem dX10_readAct_129 : decode cX10_readAct 129 = .ok (.invokevirtual 225, 3) := by decide +kernel
theorem dX10_readAct_132 : decode cX10_readAct 132 = .ok (.ifCond .eq 14, 3) := by decide +kernel
theorem dX10_readAct_135 : decode cX10_readAct 135 = .ok (.aload_n 0, 1) := by decide +kernel
theorem dX10_readAct_136 : decode cX10_readAct 136 = .ok (.iconst 1, 1) := by decide +kernel
theorem dX10_readAct_137 : decode cX10_readAct 137 = .ok (.iconst 0, 1) := by decide +kernel
theorem dX10_readAct_138 : decode cX10_readAct 138 = .ok (.bipush 99, 2) := by decide +kernel
theorem dX10_readAct_140 : decode cX10_readAct 140 = .ok (.invokevirtual 225, 3) := by decide +kernel
theorem dX10_readAct_143 : decode cX10_readAct 143 = .ok (.ifCond .ne 5, 3) := by decide +kernel
theorem dX10_readAct_146 : decode cX10_readAct 146 = .ok (.iconst 0, 1) := by decide +kernel
theorem dX10_readAct_147 : decode cX10_readAct 147 = .ok (.ireturn, 1) := by decide +kernel
theorem dX10_readAct_148 : decode cX10_readAct 148 = .ok (.aload_n 0, 1) := by decide +kernel
theorem dX10_readAct_149 : decode cX10_readAct 149 = .ok (.aload_n 0, 1) := by decide +kernel
theorem dX10_readAct_150 : decode cX10_readAct 150 = .ok (.aload_n 0, 1) := by decide +kernel
theorem dX10_readAct_151 : decode cX10_readAct 151 = .ok (.getfield 57, 3) := by decide +kernel
theorem dX10_readAct_154 : decode cX10_readAct 154 = .ok (.iconst 0, 1) := by decide +kernel
theorem dX10_readAct_155 : decode cX10_readAct 155 = .ok (.iaload, 1) := by decide +kernel
theorem dX10_readAct_156 : decode cX10_readAct 156 = .ok (.aload_n 0, 1) := by decide +kernel
theorem dX10_readAct_157 : decode cX10_readAct 157 = .ok (.getfield 57, 3) := by decide +kernel
theorem dX10_readAct_160 : decode cX10_readAct 160 = .ok (.iconst 1, 1) := by decide +kernel
theorem dX10_readAct_161 : decode cX10_readAct 161 = .ok (.iaload, 1) := by decide +kernel
theorem dX10_readAct_162 : decode cX10_readAct 162 = .ok (.invokevirtual 195, 3) := by decide +kernel
theorem dX10_readAct_165 : decode cX10_readAct 165 = .ok (.putfield 235, 3) := by decide +kernel
theorem dX10_readAct_168 : decode cX10_readAct 168 = .ok (.aload_n 0, 1) := by decide +kernel
theorem dX10_readAct_169 : decode cX10_readAct 169 = .ok (.getfield 235, 3) := by decide +kernel
theorem dX10_readAct_172 : decode cX10_readAct 172 = .ok (.ifCond .ne 22, 3) := by decide +kernel
theorem dX10_readAct_175 : decode cX10_readAct 175 = .ok (.aload_n 0, 1) := by decide +kernel
theorem dX10_readAct_176 : decode cX10_readAct 176 = .ok (.getfield 13, 3) := by decide +kernel
theorem dX10_readAct_179 : decode cX10_readAct 179 = .ok (.iconst 4, 1) := by decide +kernel
theorem dX10_readAct_180 : decode cX10_readAct 180 = .ok (.aload_n 0, 1) := by decide +kernel
theorem dX10_readAct_181 : decode cX10_readAct 181 = .ok (.getfield 57, 3) := by decide +kernel
theorem dX10_readAct_184 : decode cX10_readAct 184 = .ok (.iconst 0, 1) := by decide +kernel
theorem dX10_readAct_185 : decode cX10_readAct 185 = .ok (.iaload, 1) := by decide +kernel
theorem dX10_readAct_186 : decode cX10_readAct 186 = .ok (.iadd, 1) := by decide +kernel
theorem dX10_readAct_187 : decode cX10_readAct 187 = .ok (.aload_n 0, 1) := by decide +kernel
theorem dX10_readAct_188 : decode cX10_readAct 188 = .ok (.getfield 57, 3) := by decide +kernel
theorem dX10_readAct_191 : decode cX10_readAct 191 = .ok (.iconst 1, 1) := by decide +kernel
theorem dX10_readAct_192 : decode cX10_readAct 192 = .ok (.iaload, 1) := by decide +kernel
theorem dX10_readAct_193 : decode cX10_readAct 193 = .ok (.iastore, 1) := by decide +kernel
theorem dX10_readAct_194 : decode cX10_readAct 194 = .ok (.iconst 1, 1) := by decide +kernel
theorem dX10_readAct_195 : decode cX10_readAct 195 = .ok (.ireturn, 1) := by decide +kernel
theorem dX10_readActs_0 : decode cX10_readActs 0 = .ok (.aload_n 0, 1) := by decide +kernel
theorem dX10_readActs_1 : decode cX10_readActs 1 = .ok (.iconst 0, 1) := by decide +kernel
theorem dX10_readActs_2 : decode cX10_readActs 2 = .ok (.putfield 267, 3) := by decide +kernel
theorem dX10_readActs_5 : decode cX10_readActs 5 = .ok (.aload_n 0, 1) := by decide +kernel
theorem dX10_readActs_6 : decode cX10_readActs 6 = .ok (.iconst 0, 1) := by decide +kernel
theorem dX10_readActs_7 : decode cX10_readActs 7 = .ok (.putfield 235, 3) := by decide +kernel
theorem dX10_readActs_10 : decode cX10_readActs 10 = .ok (.aload_n 0, 1) := by decide +kernel
theorem dX10_readActs_11 : decode cX10_readActs 11 = .ok (.invokevirtual 213, 3) := by decide +kernel
theorem dX10_readActs_14 : decode cX10_readActs 14 = .ok (.aload_n 0, 1) := by decide +kernel
theorem dX10_readActs_15 : decode cX10_readActs 15 = .ok (.getfield 201, 3) := by decide +kernel
theorem dX10_readActs_18 : decode cX10_readActs 18 = .ok (.aload_n 0, 1) := by decide +kernel
theorem dX10_readActs_19 : decode cX10_readActs 19 = .ok (.getfield 204, 3) := by decide +kernel
theorem dX10_readActs_22 : decode cX10_readActs 22 = .ok (.if_icmp .ne 5, 3) := by decide +kernel
theorem dX10_readActs_25 : decode cX10_readActs 25 = .ok (.iconst 1, 1) := by decide +kernel
theorem dX10_readActs_26 : decode cX10_readActs 26 = .ok (.ireturn, 1) := by decide +kernel
theorem dX10_readActs_27 : decode cX10_readActs 27 = .ok (.aload_n 0, 1) := by decide +kernel
theorem dX10_readActs_28 : decode cX10_readActs 28 = .ok (.invokevirtual 213, 3) := by decide +kernel
theorem dX10_readActs_31 : decode cX10_readActs 31 = .ok (.aload_n 0, 1) := by decide +kernel
theorem dX10_readActs_32 : decode cX10_readActs 32 = .ok (.getfield 201, 3) := by decide +kernel
theorem dX10_readActs_35 : decode cX10_readActs 35 = .ok (.istore_n 1, 1) := by decide +kernel
theorem dX10_readActs_36 : decode cX10_readActs 36 = .ok (.aload_n 0, 1) := by decide +kernel
theorem dX10_readActs_37 : decode cX10_readActs 37 = .ok (.getfield 267, 3) := by decide +kernel
theorem dX10_readActs_40 : decode cX10_readActs 40 = .ok (.bipush 14, 2) := by decide +kernel
theorem dX10_readActs_42 : decode cX10_readActs 42 = .ok (.if_icmp .eq 10, 3) := by decide +kernel
theorem dX10_readActs_45 : decode cX10_readActs 45 = .ok (.aload_n 0, 1) := by decide +kernel
theorem dX10_readActs_46 : decode cX10_readActs 46 = .ok (.invokevirtual 270, 3) := by decide +kernel
theorem dX10_readActs_49 : decode cX10_readActs 49 = .ok (.ifCond .ne 5, 3) := by decide +kernel
theorem dX10_readActs_52 : decode cX10_readActs 52 = .ok (.iconst 0, 1) := by decide +kernel
theorem dX10_readActs_53 : decode cX10_readActs 53 = .ok (.ireturn, 1) := by decide +kernel
theorem dX10_readActs_54 : decode cX10_readActs 54 = .ok (.aload_n 0, 1) := by decide +kernel
theorem dX10_readActs_55 : decode cX10_readActs 55 = .ok (.getfield 235, 3) := by decide +kernel
theorem dX10_readActs_58 : decode cX10_readActs 58 = .ok (.ifCond .le 10, 3) := by decide +kernel
theorem dX10_readActs_61 : decode cX10_readActs 61 = .ok (.aload_n 0, 1) := by decide +kernel
theorem dX10_readActs_62 : decode cX10_readActs 62 = .ok (.iload_n 1, 1) := by decide +kernel
theorem dX10_readActs_63 : decode cX10_readActs 63 = .ok (.putfield 210, 3) := by decide +kernel
theorem dX10_readActs_66 : decode cX10_readActs 66 = .ok (.iconst 0, 1) := by decide +kernel
theorem dX10_readActs_67 : decode cX10_readActs 67 = .ok (.ireturn, 1) := by decide +kernel
theorem dX10_readActs_68 : decode cX10_readActs 68 = .ok (.aload_n 0, 1) := by decide +kernel
theorem dX10_readActs_69 : decode cX10_readActs 69 = .ok (.dup, 1) := by decide +kernel
theorem dX10_readActs_70 : decode cX10_readActs 70 = .ok (.getfield 267, 3) := by decide +kernel
theorem dX10_readActs_73 : decode cX10_readActs 73 = .ok (.iconst 1, 1) := by decide +kernel
theorem dX10_readActs_74 : decode cX10_readActs 74 = .ok (.iadd, 1) := by decide +kernel
theorem dX10_readActs_75 : decode cX10_readActs 75 = .ok (.putfield 267, 3) := by decide +kernel
theorem dX10_readActs_78 : decode cX10_readActs 78 = .ok (.aload_n 0, 1) := by decide +kernel
theorem dX10_readActs_79 : decode cX10_readActs 79 = .ok (.invokevirtual 213, 3) := by decide +kernel
theorem dX10_readActs_82 : decode cX10_readActs 82 = .ok (.aload_n 0, 1) := by decide +kernel
theorem dX10_readActs_83 : decode cX10_readActs 83 = .ok (.getfield 201, 3) := by decide +kernel
theorem dX10_readActs_86 : decode cX10_readActs 86 = .ok (.aload_n 0, 1) := by decide +kernel
theorem dX10_readActs_87 : decode cX10_readActs 87 = .ok (.getfield 204, 3) := by decide +kernel
theorem dX10_readActs_90 : decode cX10_readActs 90 = .ok (.if_icmp .ne 5, 3) := by decide +kernel
theorem dX10_readActs_93 : decode cX10_readActs 93 = .ok (.iconst 1, 1) := by decide +kernel
theorem dX10_readActs_94 : decode cX10_readActs 94 = .ok (.ireturn, 1) := by decide +kernel
theorem dX10_readActs_95 : decode cX10_readActs 95 = .ok (.aload_n 0, 1) := by decide +kernel
theorem dX10_readActs_96 : decode cX10_readActs 96 = .ok (.bipush 59, 2) := by decide +kernel
theorem dX10_readActs_98 : decode cX10_readActs 98 = .ok (.bipush 59, 2) := by decide +kernel
theorem dX10_readActs_100 : decode cX10_readActs 100 = .ok (.invokevirtual 207, 3) := by decide +kernel
theorem dX10_readActs_103 : decode cX10_readActs 103 = .ok (.ifCond .ne 5, 3) := by decide +kernel
theorem dX10_readActs_106 : decode cX10_readActs 106 = .ok (.iconst 0, 1) := by decide +kernel
theorem dX10_readActs_107 : decode cX10_readActs 107 = .ok (.ireturn, 1) := by decide +kernel
theorem dX10_readActs_108 : decode cX10_readActs 108 = .ok (.aload_n 0, 1) := by decide +kernel
theorem dX10_readActs_109 : decode cX10_readActs 109 = .ok (.dup, 1) := by decide +kernel
theorem dX10_readActs_110 : decode cX10_readActs 110 = .ok (.getfield 201, 3) := by decide +kernel
theorem dX10_readActs_113 : decode cX10_readActs 113 = .ok (.iconst 1, 1) := by decide +kernel
theorem dX10_readActs_114 : decode cX10_readActs 114 = .ok (.iadd, 1) := by decide +kernel
theorem dX10_readActs_115 : decode cX10_readActs 115 = .ok (.putfield 201, 3) := by decide +kernel
theorem dX10_readActs_118 : decode cX10_readActs 118 = .ok (.goto (-91), 3) := by decide +kernel
theorem dX10_acts_0 : decode cX10_acts 0 = .ok (.aload_n 0, 1) := by decide +kernel
theorem dX10_acts_1 : decode cX10_acts 1 = .ok (.iconst 0, 1) := by decide +kernel
theorem dX10_acts_2 : decode cX10_acts 2 = .ok (.putfield 1, 3) := by decide +kernel
theorem dX10_acts_5 : decode cX10_acts 5 = .ok (.aload_n 0, 1) := by decide +kernel
theorem dX10_acts_6 : decode cX10_acts 6 = .ok (.aload_n 0, 1) := by decide +kernel
theorem dX10_acts_7 : decode cX10_acts 7 = .ok (.getfield 198, 3) := by decide +kernel
theorem dX10_acts_10 : decode cX10_acts 10 = .ok (.putfield 204, 3) := by decide +kernel
theorem dX10_acts_13 : decode cX10_acts 13 = .ok (.aload_n 0, 1) := by decide +kernel
theorem dX10_acts_14 : decode cX10_acts 14 = .ok (.iconst 0, 1) := by decide +kernel
theorem dX10_acts_15 : decode cX10_acts 15 = .ok (.putfield 198, 3) := by decide +kernel
theorem dX10_acts_18 : decode cX10_acts 18 = .ok (.aload_n 0, 1) := by decide +kernel
theorem dX10_acts_19 : decode cX10_acts 19 = .ok (.iconst 0, 1) := by decide +kernel
theorem dX10_acts_20 : decode cX10_acts 20 = .ok (.putfield 201, 3) := by decide +kernel
theorem dX10_acts_23 : decode cX10_acts 23 = .ok (.aload_n 0, 1) := by decide +kernel
theorem dX10_acts_24 : decode cX10_acts 24 = .ok (.getfield 13, 3) := by decide +kernel
theorem dX10_acts_27 : decode cX10_acts 27 = .ok (.iconst 0, 1) := by decide +kernel
theorem dX10_acts_28 : decode cX10_acts 28 = .ok (.aload_n 0, 1) := by decide +kernel
theorem dX10_acts_29 : decode cX10_acts 29 = .ok (.getfield 20, 3) := by decide +kernel
theorem dX10_acts_32 : decode cX10_acts 32 = .ok (.iconst 0, 1) := by decide +kernel
theorem dX10_acts_33 : decode cX10_acts 33 = .ok (.invokestatic 147, 3) := by decide +kernel
theorem dX10_acts_36 : decode cX10_acts 36 = .ok (.aload_n 0, 1) := by decide +kernel
theorem dX10_acts_37 : decode cX10_acts 37 = .ok (.invokevirtual 273, 3) := by decide +kernel
theorem dX10_acts_40 : decode cX10_acts 40 = .ok (.istore_n 1, 1) := by decide +kernel
theorem dX10_acts_41 : decode cX10_acts 41 = .ok (.aload_n 0, 1) := by decide +kernel
theorem dX10_acts_42 : decode cX10_acts 42 = .ok (.iload_n 1, 1) := by decide +kernel
theorem dX10_acts_43 : decode cX10_acts 43 = .ok (.ifCond .eq 7, 3) := by decide +kernel
theorem dX10_acts_46 : decode cX10_acts 46 = .ok (.iconst (-1), 1) := by decide +kernel
theorem dX10_acts_47 : decode cX10_acts 47 = .ok (.goto 7, 3) := by decide +kernel
theorem dX10_acts_50 : decode cX10_acts 50 = .ok (.aload_n 0, 1) := by decide +kernel
theorem dX10_acts_51 : decode cX10_acts 51 = .ok (.getfield 210, 3) := by decide +kernel
theorem dX10_acts_54 : decode cX10_acts 54 = .ok (.putfield 51, 3) := by decide +kernel
theorem dX10_acts_57 : decode cX10_acts 57 = .ok (.aload_n 0, 1) := by decide +kernel
theorem dX10_acts_58 : decode cX10_acts 58 = .ok (.iload_n 1, 1) := by decide +kernel
theorem dX10_acts_59 : decode cX10_acts 59 = .ok (.ifCond .ne 7, 3) := by decide +kernel
theorem dX10_acts_62 : decode cX10_acts 62 = .ok (.iconst 1, 1) := by decide +kernel
theorem dX10_acts_63 : decode cX10_acts 63 = .ok (.goto 4, 3) := by decide +kernel
theorem dX10_acts_66 : decode cX10_acts 66 = .ok (.iconst 0, 1) := by decide +kernel
theorem dX10_acts_67 : decode cX10_acts 67 = .ok (.iconst 1, 1) := by decide +kernel
theorem dX10_acts_68 : decode cX10_acts 68 = .ok (.invokevirtual 157, 3) := by decide +kernel
theorem dX10_acts_71 : decode cX10_acts 71 = .ok (.ifCond .eq 40, 3) := by decide +kernel
theorem dX10_acts_74 : decode cX10_acts 74 = .ok (.aload_n 0, 1) := by decide +kernel
theorem dX10_acts_75 : decode cX10_acts 75 = .ok (.getfield 20, 3) := by decide +kernel
theorem dX10_acts_78 : decode cX10_acts 78 = .ok (.iconst 0, 1) := by decide +kernel
theorem dX10_acts_79 : decode cX10_acts 79 = .ok (.aload_n 0, 1) := by decide +kernel
theorem dX10_acts_80 : decode cX10_acts 80 = .ok (.getfield 13, 3) := by decide +kernel
theorem dX10_acts_83 : decode cX10_acts 83 = .ok (.iconst 0, 1) := by decide +kernel
theorem dX10_acts_84 : decode cX10_acts 84 = .ok (.invokestatic 147, 3) := by decide +kernel
theorem dX10_acts_87 : decode cX10_acts 87 = .ok (.aload_n 0, 1) := by decide +kernel
theorem dX10_acts_88 : decode cX10_acts 88 = .ok (.aload_n 0, 1) := by decide +kernel
theorem dX10_acts_89 : decode cX10_acts 89 = .ok (.getfield 235, 3) := by decide +kernel
theorem dX10_acts_92 : decode cX10_acts 92 = .ok (.ifCond .le 10, 3) := by decide +kernel
theorem dX10_acts_95 : decode cX10_acts 95 = .ok (.aload_n 0, 1) := by decide +kernel
theorem dX10_acts_96 : decode cX10_acts 96 = .ok (.getfield 235, 3) := by decide +kernel
theorem dX10_acts_99 : decode cX10_acts 99 = .ok (.goto 7, 3) := by decide +kernel
theorem dX10_acts_102 : decode cX10_acts 102 = .ok (.aload_n 0, 1) := by decide +kernel
theorem dX10_acts_103 : decode cX10_acts 103 = .ok (.getfield 154, 3) := by decide +kernel
theorem dX10_acts_106 : decode cX10_acts 106 = .ok (.putfield 154, 3) := by decide +kernel
theorem dX10_acts_109 : decode cX10_acts 109 = .ok (.iconst 0, 1) := by decide +kernel
theorem dX10_acts_110 : decode cX10_acts 110 = .ok (.ireturn, 1) := by decide +kernel
theorem dX10_acts_111 : decode cX10_acts 111 = .ok (.aload_n 0, 1) := by decide +kernel
theorem dX10_acts_112 : decode cX10_acts 112 = .ok (.aload_n 0, 1) := by decide +kernel
theorem dX10_acts_113 : decode cX10_acts 113 = .ok (.getfield 267, 3) := by decide +kernel
theorem dX10_acts_116 : decode cX10_acts 116 = .ok (.ifCond .le 7, 3) := by decide +kernel
theorem dX10_acts_119 : decode cX10_acts 119 = .ok (.iconst 0, 1) := by decide +kernel
theorem dX10_acts_120 : decode cX10_acts 120 = .ok (.goto 7, 3) := by decide +kernel
theorem dX10_acts_123 : decode cX10_acts 123 = .ok (.aload_n 0, 1) := by decide +kernel
theorem dX10_acts_124 : decode cX10_acts 124 = .ok (.getfield 154, 3) := by decide +kernel
theorem dX10_acts_127 : decode cX10_acts 127 = .ok (.putfield 154, 3) := by decide +kernel
theorem dX10_acts_130 : decode cX10_acts 130 = .ok (.aload_n 0, 1) := by decide +kernel
theorem dX10_acts_131 : decode cX10_acts 131 = .ok (.iconst 0, 1) := by decide +kernel
theorem dX10_acts_132 : decode cX10_acts 132 = .ok (.putfield 144, 3) := by decide +kernel
theorem dX10_acts_135 : decode cX10_acts 135 = .ok (.aload_n 0, 1) := by decide +kernel
theorem dX10_acts_136 : decode cX10_acts 136 = .ok (.invokevirtual 164, 3) := by decide +kernel
theorem dX10_acts_139 : decode cX10_acts 139 = .ok (.aload_n 0, 1) := by decide +kernel
theorem dX10_acts_140 : decode cX10_acts 140 = .ok (.getfield 267, 3) := by decide +kernel
theorem dX10_acts_143 : decode cX10_acts 143 = .ok (.ireturn, 1) := by decide +kernel
theorem dX10_noNode_0 : decode cX10_noNode 0 = .ok (.aload_n 0, 1) := by decide +kernel
theorem dX10_noNode_1 : decode cX10_noNode 1 = .ok (.iconst 0, 1) := by decide +kernel
theorem dX10_noNode_2 : decode cX10_noNode 2 = .ok (.putfield 1, 3) := by decide +kernel
theorem dX10_noNode_5 : decode cX10_noNode 5 = .ok (.aload_n 0, 1) := by decide +kernel
theorem dX10_noNode_6 : decode cX10_noNode 6 = .ok (.invokevirtual 126, 3) := by decide +kernel
theorem dX10_noNode_9 : decode cX10_noNode 9 = .ok (.aload_n 0, 1) := by decide +kernel
theorem dX10_noNode_10 : decode cX10_noNode 10 = .ok (.aload_n 0, 1) := by decide +kernel
theorem dX10_noNode_11 : decode cX10_noNode 11 = .ok (.iload_n 1, 1) := by decide +kernel
theorem dX10_noNode_12 : decode cX10_noNode 12 = .ok (.invokevirtual 171, 3) := by decide +kernel
theorem dX10_noNode_15 : decode cX10_noNode 15 = .ok (.ifCond .ne 7, 3) := by decide +kernel
theorem dX10_noNode_18 : decode cX10_noNode 18 = .ok (.iconst 1, 1) := by decide +kernel
theorem dX10_noNode_19 : decode cX10_noNode 19 = .ok (.goto 4, 3) := by decide +kernel
theorem dX10_noNode_22 : decode cX10_noNode 22 = .ok (.iconst 0, 1) := by decide +kernel
theorem dX10_noNode_23 : decode cX10_noNode 23 = .ok (.iconst 1, 1) := by decide +kernel
theorem dX10_noNode_24 : decode cX10_noNode 24 = .ok (.invokevirtual 157, 3) := by decide +kernel
theorem dX10_noNode_27 : decode cX10_noNode 27 = .ok (.ireturn, 1) := by decide +kernel
theorem dX10_edgeOf_0 : decode cX10_edgeOf 0 = .ok (.aload_n 0, 1) := by decide +kernel
theorem dX10_edgeOf_1 : decode cX10_edgeOf 1 = .ok (.getfield 120, 3) := by decide +kernel
theorem dX10_edgeOf_4 : decode cX10_edgeOf 4 = .ok (.iload_n 1, 1) := by decide +kernel
theorem dX10_edgeOf_5 : decode cX10_edgeOf 5 = .ok (.invokestatic 99, 3) := by decide +kernel
theorem dX10_edgeOf_8 : decode cX10_edgeOf 8 = .ok (.ifCond .ne 5, 3) := by decide +kernel
theorem dX10_edgeOf_11 : decode cX10_edgeOf 11 = .ok (.iconst 0, 1) := by decide +kernel
theorem dX10_edgeOf_12 : decode cX10_edgeOf 12 = .ok (.ireturn, 1) := by decide +kernel
theorem dX10_edgeOf_13 : decode cX10_edgeOf 13 = .ok (.aload_n 0, 1) := by decide +kernel
theorem dX10_edgeOf_14 : decode cX10_edgeOf 14 = .ok (.iload_n 1, 1) := by decide +kernel
theorem dX10_edgeOf_15 : decode cX10_edgeOf 15 = .ok (.invokevirtual 276, 3) := by decide +kernel
theorem dX10_edgeOf_18 : decode cX10_edgeOf 18 = .ok (.iconst 1, 1) := by decide +kernel
theorem dX10_edgeOf_19 : decode cX10_edgeOf 19 = .ok (.iload_n 1, 1) := by decide +kernel
theorem dX10_edgeOf_20 : decode cX10_edgeOf 20 = .ok (.ishl, 1) := by decide +kernel
theorem dX10_edgeOf_21 : decode cX10_edgeOf 21 = .ok (.ior, 1) := by decide +kernel
theorem dX10_edgeOf_22 : decode cX10_edgeOf 22 = .ok (.istore_n 2, 1) := by decide +kernel
theorem dX10_edgeOf_23 : decode cX10_edgeOf 23 = .ok (.iconst 0, 1) := by decide +kernel
theorem dX10_edgeOf_24 : decode cX10_edgeOf 24 = .ok (.istore_n 3, 1) := by decide +kernel
theorem dX10_edgeOf_25 : decode cX10_edgeOf 25 = .ok (.iconst 0, 1) := by decide +kernel
theorem dX10_edgeOf_26 : decode cX10_edgeOf 26 = .ok (.istore 4, 2) := by decide +kernel
theorem dX10_edgeOf_28 : decode cX10_edgeOf 28 = .ok (.iload 4, 2) := by decide +kernel
theorem dX10_edgeOf_30 : decode cX10_edgeOf 30 = .ok (.aload_n 0, 1) := by decide +kernel
theorem dX10_edgeOf_31 : decode cX10_edgeOf 31 = .ok (.invokevirtual 88, 3) := by decide +kernel
theorem dX10_edgeOf_34 : decode cX10_edgeOf 34 = .ok (.if_icmp .ge 56, 3) := by decide +kernel
theorem dX10_edgeOf_37 : decode cX10_edgeOf 37 = .ok (.aload_n 0, 1) := by decide +kernel
theorem dX10_edgeOf_38 : decode cX10_edgeOf 38 = .ok (.iload 4, 2) := by decide +kernel
theorem dX10_edgeOf_40 : decode cX10_edgeOf 40 = .ok (.invokevirtual 91, 3) := by decide +kernel
theorem dX10_edgeOf_43 : decode cX10_edgeOf 43 = .ok (.ifCond .eq 41, 3) := by decide +kernel
theorem dX10_edgeOf_46 : decode cX10_edgeOf 46 = .ok (.iload_n 2, 1) := by decide +kernel
theorem dX10_edgeOf_47 : decode cX10_edgeOf 47 = .ok (.aload_n 0, 1) := by decide +kernel
theorem dX10_edgeOf_48 : decode cX10_edgeOf 48 = .ok (.iload 4, 2) := by decide +kernel
theorem dX10_edgeOf_50 : decode cX10_edgeOf 50 = .ok (.invokevirtual 95, 3) := by decide +kernel
theorem dX10_edgeOf_53 : decode cX10_edgeOf 53 = .ok (.invokestatic 99, 3) := by decide +kernel
theorem dX10_edgeOf_56 : decode cX10_edgeOf 56 = .ok (.ifCond .eq 28, 3) := by decide +kernel
theorem dX10_edgeOf_59 : decode cX10_edgeOf 59 = .ok (.aload_n 0, 1) := by decide +kernel
theorem dX10_edgeOf_60 : decode cX10_edgeOf 60 = .ok (.iload_n 1, 1) := by decide +kernel
theorem dX10_edgeOf_61 : decode cX10_edgeOf 61 = .ok (.aload_n 0, 1) := by decide +kernel
theorem dX10_edgeOf_62 : decode cX10_edgeOf 62 = .ok (.iload 4, 2) := by decide +kernel
theorem dX10_edgeOf_64 : decode cX10_edgeOf 64 = .ok (.invokevirtual 103, 3) := by decide +kernel
theorem dX10_edgeOf_67 : decode cX10_edgeOf 67 = .ok (.invokevirtual 279, 3) := by decide +kernel
theorem dX10_edgeOf_70 : decode cX10_edgeOf 70 = .ok (.ifCond .ne 14, 3) := by decide +kernel
theorem dX10_edgeOf_73 : decode cX10_edgeOf 73 = .ok (.iload_n 3, 1) := by decide +kernel
theorem dX10_edgeOf_74 : decode cX10_edgeOf 74 = .ok (.iconst 1, 1) := by decide +kernel
theorem dX10_edgeOf_75 : decode cX10_edgeOf 75 = .ok (.aload_n 0, 1) := by decide +kernel
theorem dX10_edgeOf_76 : decode cX10_edgeOf 76 = .ok (.iload 4, 2) := by decide +kernel
theorem dX10_edgeOf_78 : decode cX10_edgeOf 78 = .ok (.invokevirtual 103, 3) := by decide +kernel
theorem dX10_edgeOf_81 : decode cX10_edgeOf 81 = .ok (.ishl, 1) := by decide +kernel
theorem dX10_edgeOf_82 : decode cX10_edgeOf 82 = .ok (.ior, 1) := by decide +kernel
theorem dX10_edgeOf_83 : decode cX10_edgeOf 83 = .ok (.istore_n 3, 1) := by decide +kernel
theorem dX10_edgeOf_84 : decode cX10_edgeOf 84 = .ok (.iinc 4 1, 3) := by decide +kernel
theorem dX10_edgeOf_87 : decode cX10_edgeOf 87 = .ok (.goto (-59), 3) := by decide +kernel
theorem dX10_edgeOf_90 : decode cX10_edgeOf 90 = .ok (.iload_n 3, 1) := by decide +kernel
theorem dX10_edgeOf_91 : decode cX10_edgeOf 91 = .ok (.ireturn, 1) := by decide +kernel
theorem dX10_isBack_0 : decode cX10_isBack 0 = .ok (.aload_n 0, 1) := by decide +kernel
theorem dX10_isBack_1 : decode cX10_isBack 1 = .ok (.iload_n 1, 1) := by decide +kernel
theorem dX10_isBack_2 : decode cX10_isBack 2 = .ok (.invokevirtual 91, 3) := by decide +kernel
theorem dX10_isBack_5 : decode cX10_isBack 5 = .ok (.ifCond .eq 52, 3) := by decide +kernel
theorem dX10_isBack_8 : decode cX10_isBack 8 = .ok (.aload_n 0, 1) := by decide +kernel
theorem dX10_isBack_9 : decode cX10_isBack 9 = .ok (.getfield 120, 3) := by decide +kernel
theorem dX10_isBack_12 : decode cX10_isBack 12 = .ok (.aload_n 0, 1) := by decide +kernel
theorem dX10_isBack_13 : decode cX10_isBack 13 = .ok (.iload_n 1, 1) := by decide +kernel
theorem dX10_isBack_14 : decode cX10_isBack 14 = .ok (.invokevirtual 95, 3) := by decide +kernel
theorem dX10_isBack_17 : decode cX10_isBack 17 = .ok (.invokestatic 99, 3) := by decide +kernel
theorem dX10_isBack_20 : decode cX10_isBack 20 = .ok (.ifCond .eq 37, 3) := by decide +kernel
theorem dX10_isBack_23 : decode cX10_isBack 23 = .ok (.aload_n 0, 1) := by decide +kernel
theorem dX10_isBack_24 : decode cX10_isBack 24 = .ok (.iload_n 1, 1) := by decide +kernel
theorem dX10_isBack_25 : decode cX10_isBack 25 = .ok (.invokevirtual 95, 3) := by decide +kernel
theorem dX10_isBack_28 : decode cX10_isBack 28 = .ok (.aload_n 0, 1) := by decide +kernel
theorem dX10_isBack_29 : decode cX10_isBack 29 = .ok (.iload_n 1, 1) := by decide +kernel
theorem dX10_isBack_30 : decode cX10_isBack 30 = .ok (.invokevirtual 103, 3) := by decide +kernel
theorem dX10_isBack_33 : decode cX10_isBack 33 = .ok (.if_icmp .eq 20, 3) := by decide +kernel
theorem dX10_isBack_36 : decode cX10_isBack 36 = .ok (.aload_n 0, 1) := by decide +kernel
theorem dX10_isBack_37 : decode cX10_isBack 37 = .ok (.aload_n 0, 1) := by decide +kernel
theorem dX10_isBack_38 : decode cX10_isBack 38 = .ok (.iload_n 1, 1) := by decide +kernel
theorem dX10_isBack_39 : decode cX10_isBack 39 = .ok (.invokevirtual 103, 3) := by decide +kernel
theorem dX10_isBack_42 : decode cX10_isBack 42 = .ok (.aload_n 0, 1) := by decide +kernel
theorem dX10_isBack_43 : decode cX10_isBack 43 = .ok (.iload_n 1, 1) := by decide +kernel
theorem dX10_isBack_44 : decode cX10_isBack 44 = .ok (.invokevirtual 95, 3) := by decide +kernel
theorem dX10_isBack_47 : decode cX10_isBack 47 = .ok (.invokevirtual 279, 3) := by decide +kernel
theorem dX10_isBack_50 : decode cX10_isBack 50 = .ok (.ifCond .eq 7, 3) := by decide +kernel
theorem dX10_isBack_53 : decode cX10_isBack 53 = .ok (.iconst 1, 1) := by decide +kernel
theorem dX10_isBack_54 : decode cX10_isBack 54 = .ok (.goto 4, 3) := by decide +kernel
theorem dX10_isBack_57 : decode cX10_isBack 57 = .ok (.iconst 0, 1) := by decide +kernel
theorem dX10_isBack_58 : decode cX10_isBack 58 = .ok (.ireturn, 1) := by decide +kernel
theorem dX10_bodyOf_0 : decode cX10_bodyOf 0 = .ok (.iconst 0, 1) := by decide +kernel
theorem dX10_bodyOf_1 : decode cX10_bodyOf 1 = .ok (.istore_n 2, 1) := by decide +kernel
theorem dX10_bodyOf_2 : decode cX10_bodyOf 2 = .ok (.iconst 0, 1) := by decide +kernel
theorem dX10_bodyOf_3 : decode cX10_bodyOf 3 = .ok (.istore_n 3, 1) := by decide +kernel
theorem dX10_bodyOf_4 : decode cX10_bodyOf 4 = .ok (.iconst 0, 1) := by decide +kernel
theorem dX10_bodyOf_5 : decode cX10_bodyOf 5 = .ok (.istore 4, 2) := by decide +kernel
theorem dX10_bodyOf_7 : decode cX10_bodyOf 7 = .ok (.iload 4, 2) := by decide +kernel
theorem dX10_bodyOf_9 : decode cX10_bodyOf 9 = .ok (.aload_n 0, 1) := by decide +kernel
theorem dX10_bodyOf_10 : decode cX10_bodyOf 10 = .ok (.invokevirtual 88, 3) := by decide +kernel
theorem dX10_bodyOf_13 : decode cX10_bodyOf 13 = .ok (.if_icmp .ge 44, 3) := by decide +kernel
theorem dX10_bodyOf_16 : decode cX10_bodyOf 16 = .ok (.aload_n 0, 1) := by decide +kernel
theorem dX10_bodyOf_17 : decode cX10_bodyOf 17 = .ok (.iload 4, 2) := by decide +kernel
theorem dX10_bodyOf_19 : decode cX10_bodyOf 19 = .ok (.invokevirtual 282, 3) := by decide +kernel
theorem dX10_bodyOf_22 : decode cX10_bodyOf 22 = .ok (.ifCond .eq 29, 3) := by decide +kernel
theorem dX10_bodyOf_25 : decode cX10_bodyOf 25 = .ok (.aload_n 0, 1) := by decide +kernel
theorem dX10_bodyOf_26 : decode cX10_bodyOf 26 = .ok (.iload 4, 2) := by decide +kernel
theorem dX10_bodyOf_28 : decode cX10_bodyOf 28 = .ok (.invokevirtual 103, 3) := by decide +kernel
theorem dX10_bodyOf_31 : decode cX10_bodyOf 31 = .ok (.iload_n 1, 1) := by decide +kernel
theorem dX10_bodyOf_32 : decode cX10_bodyOf 32 = .ok (.if_icmp .eq 6, 3) := by decide +kernel
theorem dX10_bodyOf_35 : decode cX10_bodyOf 35 = .ok (.goto 16, 3) := by decide +kernel
theorem dX10_bodyOf_38 : decode cX10_bodyOf 38 = .ok (.iconst 1, 1) := by decide +kernel
theorem dX10_bodyOf_39 : decode cX10_bodyOf 39 = .ok (.istore_n 3, 1) := by decide +kernel
theorem dX10_bodyOf_40 : decode cX10_bodyOf 40 = .ok (.iload_n 2, 1) := by decide +kernel
theorem dX10_bodyOf_41 : decode cX10_bodyOf 41 = .ok (.iconst 1, 1) := by decide +kernel
theorem dX10_bodyOf_42 : decode cX10_bodyOf 42 = .ok (.aload_n 0, 1) := by decide +kernel
theorem dX10_bodyOf_43 : decode cX10_bodyOf 43 = .ok (.iload 4, 2) := by decide +kernel
theorem dX10_bodyOf_45 : decode cX10_bodyOf 45 = .ok (.invokevirtual 95, 3) := by decide +kernel
theorem dX10_bodyOf_48 : decode cX10_bodyOf 48 = .ok (.ishl, 1) := by decide +kernel
theorem dX10_bodyOf_49 : decode cX10_bodyOf 49 = .ok (.ior, 1) := by decide +kernel
theorem dX10_bodyOf_50 : decode cX10_bodyOf 50 = .ok (.istore_n 2, 1) := by decide +kernel
theorem dX10_bodyOf_51 : decode cX10_bodyOf 51 = .ok (.iinc 4 1, 3) := by decide +kernel
theorem dX10_bodyOf_54 : decode cX10_bodyOf 54 = .ok (.goto (-47), 3) := by decide +kernel
theorem dX10_bodyOf_57 : decode cX10_bodyOf 57 = .ok (.iload_n 3, 1) := by decide +kernel
theorem dX10_bodyOf_58 : decode cX10_bodyOf 58 = .ok (.ifCond .eq 29, 3) := by decide +kernel
theorem dX10_bodyOf_61 : decode cX10_bodyOf 61 = .ok (.aload_n 0, 1) := by decide +kernel
theorem dX10_bodyOf_62 : decode cX10_bodyOf 62 = .ok (.iload_n 2, 1) := by decide +kernel
theorem dX10_bodyOf_63 : decode cX10_bodyOf 63 = .ok (.iconst 1, 1) := by decide +kernel
theorem dX10_bodyOf_64 : decode cX10_bodyOf 64 = .ok (.iload_n 1, 1) := by decide +kernel
theorem dX10_bodyOf_65 : decode cX10_bodyOf 65 = .ok (.ishl, 1) := by decide +kernel
theorem dX10_bodyOf_66 : decode cX10_bodyOf 66 = .ok (.iconst (-1), 1) := by decide +kernel
theorem dX10_bodyOf_67 : decode cX10_bodyOf 67 = .ok (.ixor, 1) := by decide +kernel
theorem dX10_bodyOf_68 : decode cX10_bodyOf 68 = .ok (.iand, 1) := by decide +kernel
theorem dX10_bodyOf_69 : decode cX10_bodyOf 69 = .ok (.iconst 1, 1) := by decide +kernel
theorem dX10_bodyOf_70 : decode cX10_bodyOf 70 = .ok (.iload_n 1, 1) := by decide +kernel
theorem dX10_bodyOf_71 : decode cX10_bodyOf 71 = .ok (.ishl, 1) := by decide +kernel
theorem dX10_bodyOf_72 : decode cX10_bodyOf 72 = .ok (.invokevirtual 285, 3) := by decide +kernel
theorem dX10_bodyOf_75 : decode cX10_bodyOf 75 = .ok (.aload_n 0, 1) := by decide +kernel
theorem dX10_bodyOf_76 : decode cX10_bodyOf 76 = .ok (.getfield 120, 3) := by decide +kernel
theorem dX10_bodyOf_79 : decode cX10_bodyOf 79 = .ok (.iand, 1) := by decide +kernel
theorem dX10_bodyOf_80 : decode cX10_bodyOf 80 = .ok (.iconst 1, 1) := by decide +kernel
theorem dX10_bodyOf_81 : decode cX10_bodyOf 81 = .ok (.iload_n 1, 1) := by decide +kernel
theorem dX10_bodyOf_82 : decode cX10_bodyOf 82 = .ok (.ishl, 1) := by decide +kernel
theorem dX10_bodyOf_83 : decode cX10_bodyOf 83 = .ok (.ior, 1) := by decide +kernel
theorem dX10_bodyOf_84 : decode cX10_bodyOf 84 = .ok (.goto 4, 3) := by decide +kernel
theorem dX10_bodyOf_87 : decode cX10_bodyOf 87 = .ok (.iconst 0, 1) := by decide +kernel
theorem dX10_bodyOf_88 : decode cX10_bodyOf 88 = .ok (.ireturn, 1) := by decide +kernel
theorem dX10_nestOf_0 : decode cX10_nestOf 0 = .ok (.iconst 0, 1) := by decide +kernel
theorem dX10_nestOf_1 : decode cX10_nestOf 1 = .ok (.istore_n 2, 1) := by decide +kernel
theorem dX10_nestOf_2 : decode cX10_nestOf 2 = .ok (.iconst 0, 1) := by decide +kernel
theorem dX10_nestOf_3 : decode cX10_nestOf 3 = .ok (.istore_n 3, 1) := by decide +kernel
theorem dX10_nestOf_4 : decode cX10_nestOf 4 = .ok (.iload_n 3, 1) := by decide +kernel
theorem dX10_nestOf_5 : decode cX10_nestOf 5 = .ok (.aload_n 0, 1) := by decide +kernel
theorem dX10_nestOf_6 : decode cX10_nestOf 6 = .ok (.invokevirtual 80, 3) := by decide +kernel
theorem dX10_nestOf_9 : decode cX10_nestOf 9 = .ok (.if_icmp .ge 29, 3) := by decide +kernel
theorem dX10_nestOf_12 : decode cX10_nestOf 12 = .ok (.iload_n 2, 1) := by decide +kernel
theorem dX10_nestOf_13 : decode cX10_nestOf 13 = .ok (.aload_n 0, 1) := by decide +kernel
theorem dX10_nestOf_14 : decode cX10_nestOf 14 = .ok (.iload_n 3, 1) := by decide +kernel
theorem dX10_nestOf_15 : decode cX10_nestOf 15 = .ok (.invokevirtual 288, 3) := by decide +kernel
theorem dX10_nestOf_18 : decode cX10_nestOf 18 = .ok (.iload_n 1, 1) := by decide +kernel
theorem dX10_nestOf_19 : decode cX10_nestOf 19 = .ok (.invokestatic 99, 3) := by decide +kernel
theorem dX10_nestOf_22 : decode cX10_nestOf 22 = .ok (.ifCond .eq 7, 3) := by decide +kernel
theorem dX10_nestOf_25 : decode cX10_nestOf 25 = .ok (.iconst 1, 1) := by decide +kernel
theorem dX10_nestOf_26 : decode cX10_nestOf 26 = .ok (.goto 4, 3) := by decide +kernel
theorem dX10_nestOf_29 : decode cX10_nestOf 29 = .ok (.iconst 0, 1) := by decide +kernel
theorem dX10_nestOf_30 : decode cX10_nestOf 30 = .ok (.iadd, 1) := by decide +kernel
theorem dX10_nestOf_31 : decode cX10_nestOf 31 = .ok (.istore_n 2, 1) := by decide +kernel
theorem dX10_nestOf_32 : decode cX10_nestOf 32 = .ok (.iinc 3 1, 3) := by decide +kernel
theorem dX10_nestOf_35 : decode cX10_nestOf 35 = .ok (.goto (-31), 3) := by decide +kernel
theorem dX10_nestOf_38 : decode cX10_nestOf 38 = .ok (.iload_n 2, 1) := by decide +kernel
theorem dX10_nestOf_39 : decode cX10_nestOf 39 = .ok (.ireturn, 1) := by decide +kernel
theorem dX10_nearOf_0 : decode cX10_nearOf 0 = .ok (.iconst 1, 1) := by decide +kernel
theorem dX10_nearOf_1 : decode cX10_nearOf 1 = .ok (.aload_n 0, 1) := by decide +kernel
theorem dX10_nearOf_2 : decode cX10_nearOf 2 = .ok (.invokevirtual 109, 3) := by decide +kernel
theorem dX10_nearOf_5 : decode cX10_nearOf 5 = .ok (.ishl, 1) := by decide +kernel
theorem dX10_nearOf_6 : decode cX10_nearOf 6 = .ok (.istore_n 2, 1) := by decide +kernel
theorem dX10_nearOf_7 : decode cX10_nearOf 7 = .ok (.iconst 0, 1) := by decide +kernel
theorem dX10_nearOf_8 : decode cX10_nearOf 8 = .ok (.istore_n 3, 1) := by decide +kernel
theorem dX10_nearOf_9 : decode cX10_nearOf 9 = .ok (.iload_n 2, 1) := by decide +kernel
theorem dX10_nearOf_10 : decode cX10_nearOf 10 = .ok (.iload_n 1, 1) := by decide +kernel
theorem dX10_nearOf_11 : decode cX10_nearOf 11 = .ok (.invokestatic 99, 3) := by decide +kernel
theorem dX10_nearOf_14 : decode cX10_nearOf 14 = .ok (.ifCond .eq 5, 3) := by decide +kernel
theorem dX10_nearOf_17 : decode cX10_nearOf 17 = .ok (.iload_n 3, 1) := by decide +kernel
theorem dX10_nearOf_18 : decode cX10_nearOf 18 = .ok (.ireturn, 1) := by decide +kernel
theorem dX10_nearOf_19 : decode cX10_nearOf 19 = .ok (.iload_n 2, 1) := by decide +kernel
theorem dX10_nearOf_20 : decode cX10_nearOf 20 = .ok (.istore 4, 2) := by decide +kernel
theorem dX10_nearOf_22 : decode cX10_nearOf 22 = .ok (.iconst 0, 1) := by decide +kernel
theorem dX10_nearOf_23 : decode cX10_nearOf 23 = .ok (.istore 5, 2) := by decide +kernel
theorem dX10_nearOf_25 : decode cX10_nearOf 25 = .ok (.iload 5, 2) := by decide +kernel
theorem dX10_nearOf_27 : decode cX10_nearOf 27 = .ok (.aload_n 0, 1) := by decide +kernel
theorem dX10_nearOf_28 : decode cX10_nearOf 28 = .ok (.invokevirtual 88, 3) := by decide +kernel
theorem dX10_nearOf_31 : decode cX10_nearOf 31 = .ok (.if_icmp .ge 44, 3) := by decide +kernel
theorem dX10_nearOf_34 : decode cX10_nearOf 34 = .ok (.aload_n 0, 1) := by decide +kernel
theorem dX10_nearOf_35 : decode cX10_nearOf 35 = .ok (.iload 5, 2) := by decide +kernel
theorem dX10_nearOf_37 : decode cX10_nearOf 37 = .ok (.invokevirtual 91, 3) := by decide +kernel
theorem dX10_nearOf_40 : decode cX10_nearOf 40 = .ok (.ifCond .eq 29, 3) := by decide +kernel
theorem dX10_nearOf_43 : decode cX10_nearOf 43 = .ok (.iload_n 2, 1) := by decide +kernel
theorem dX10_nearOf_44 : decode cX10_nearOf 44 = .ok (.aload_n 0, 1) := by decide +kernel
theorem dX10_nearOf_45 : decode cX10_nearOf 45 = .ok (.iload 5, 2) := by decide +kernel
theorem dX10_nearOf_47 : decode cX10_nearOf 47 = .ok (.invokevirtual 95, 3) := by decide +kernel
theorem dX10_nearOf_50 : decode cX10_nearOf 50 = .ok (.invokestatic 99, 3) := by decide +kernel
theorem dX10_nearOf_53 : decode cX10_nearOf 53 = .ok (.ifCond .eq 16, 3) := by decide +kernel
theorem dX10_nearOf_56 : decode cX10_nearOf 56 = .ok (.iload 4, 2) := by decide +kernel
theorem dX10_nearOf_58 : decode cX10_nearOf 58 = .ok (.iconst 1, 1) := by decide +kernel
theorem dX10_nearOf_59 : decode cX10_nearOf 59 = .ok (.aload_n 0, 1) := by decide +kernel
theorem dX10_nearOf_60 : decode cX10_nearOf 60 = .ok (.iload 5, 2) := by decide +kernel
theorem dX10_nearOf_62 : decode cX10_nearOf 62 = .ok (.invokevirtual 103, 3) := by decide +kernel
theorem dX10_nearOf_65 : decode cX10_nearOf 65 = .ok (.ishl, 1) := by decide +kernel
theorem dX10_nearOf_66 : decode cX10_nearOf 66 = .ok (.ior, 1) := by decide +kernel
theorem dX10_nearOf_67 : decode cX10_nearOf 67 = .ok (.istore 4, 2) := by decide +kernel
theorem dX10_nearOf_69 : decode cX10_nearOf 69 = .ok (.iinc 5 1, 3) := by decide +kernel
theorem dX10_nearOf_72 : decode cX10_nearOf 72 = .ok (.goto (-47), 3) := by decide +kernel
theorem dX10_nearOf_75 : decode cX10_nearOf 75 = .ok (.iload 4, 2) := by decide +kernel
theorem dX10_nearOf_77 : decode cX10_nearOf 77 = .ok (.iload_n 2, 1) := by decide +kernel
theorem dX10_nearOf_78 : decode cX10_nearOf 78 = .ok (.if_icmp .ne 5, 3) := by decide +kernel
theorem dX10_nearOf_81 : decode cX10_nearOf 81 = .ok (.iconst (-1), 1) := by decide +kernel
theorem dX10_nearOf_82 : decode cX10_nearOf 82 = .ok (.ireturn, 1) := by decide +kernel
theorem dX10_nearOf_83 : decode cX10_nearOf 83 = .ok (.iload 4, 2) := by decide +kernel
theorem dX10_nearOf_85 : decode cX10_nearOf 85 = .ok (.istore_n 2, 1) := by decide +kernel
theorem dX10_nearOf_86 : decode cX10_nearOf 86 = .ok (.iinc 3 1, 3) := by decide +kernel
theorem dX10_nearOf_89 : decode cX10_nearOf 89 = .ok (.goto (-80), 3) := by decide +kernel
theorem dX10_hasWayOut_0 : decode cX10_hasWayOut 0 = .ok (.aload_n 0, 1) := by decide +kernel
theorem dX10_hasWayOut_1 : decode cX10_hasWayOut 1 = .ok (.getfield 120, 3) := by decide +kernel
theorem dX10_hasWayOut_4 : decode cX10_hasWayOut 4 = .ok (.iload_n 1, 1) := by decide +kernel
theorem dX10_hasWayOut_5 : decode cX10_hasWayOut 5 = .ok (.invokestatic 99, 3) := by decide +kernel
theorem dX10_hasWayOut_8 : decode cX10_hasWayOut 8 = .ok (.ifCond .eq 27, 3) := by decide +kernel
theorem dX10_hasWayOut_11 : decode cX10_hasWayOut 11 = .ok (.aload_n 0, 1) := by decide +kernel
theorem dX10_hasWayOut_12 : decode cX10_hasWayOut 12 = .ok (.iconst 1, 1) := by decide +kernel
theorem dX10_hasWayOut_13 : decode cX10_hasWayOut 13 = .ok (.aload_n 0, 1) := by decide +kernel
theorem dX10_hasWayOut_14 : decode cX10_hasWayOut 14 = .ok (.getfield 13, 3) := by decide +kernel
theorem dX10_hasWayOut_17 : decode cX10_hasWayOut 17 = .ok (.iconst 2, 1) := by decide +kernel
theorem dX10_hasWayOut_18 : decode cX10_hasWayOut 18 = .ok (.iaload, 1) := by decide +kernel
theorem dX10_hasWayOut_19 : decode cX10_hasWayOut 19 = .ok (.ishl, 1) := by decide +kernel
theorem dX10_hasWayOut_20 : decode cX10_hasWayOut 20 = .ok (.iconst 0, 1) := by decide +kernel
theorem dX10_hasWayOut_21 : decode cX10_hasWayOut 21 = .ok (.invokevirtual 285, 3) := by decide +kernel
theorem dX10_hasWayOut_24 : decode cX10_hasWayOut 24 = .ok (.iload_n 1, 1) := by decide +kernel
theorem dX10_hasWayOut_25 : decode cX10_hasWayOut 25 = .ok (.invokestatic 99, 3) := by decide +kernel
theorem dX10_hasWayOut_28 : decode cX10_hasWayOut 28 = .ok (.ifCond .eq 7, 3) := by decide +kernel
theorem dX10_hasWayOut_31 : decode cX10_hasWayOut 31 = .ok (.iconst 1, 1) := by decide +kernel
theorem dX10_hasWayOut_32 : decode cX10_hasWayOut 32 = .ok (.goto 4, 3) := by decide +kernel
theorem dX10_hasWayOut_35 : decode cX10_hasWayOut 35 = .ok (.iconst 0, 1) := by decide +kernel
theorem dX10_hasWayOut_36 : decode cX10_hasWayOut 36 = .ok (.ireturn, 1) := by decide +kernel
theorem dX10_outGatesOf_0 : decode cX10_outGatesOf 0 = .ok (.aload_n 0, 1) := by decide +kernel
theorem dX10_outGatesOf_1 : decode cX10_outGatesOf 1 = .ok (.iload_n 1, 1) := by decide +kernel
theorem dX10_outGatesOf_2 : decode cX10_outGatesOf 2 = .ok (.invokevirtual 291, 3) := by decide +kernel
theorem dX10_outGatesOf_5 : decode cX10_outGatesOf 5 = .ok (.ifCond .ne 5, 3) := by decide +kernel
theorem dX10_outGatesOf_8 : decode cX10_outGatesOf 8 = .ok (.iconst 0, 1) := by decide +kernel
theorem dX10_outGatesOf_9 : decode cX10_outGatesOf 9 = .ok (.ireturn, 1) := by decide +kernel
theorem dX10_outGatesOf_10 : decode cX10_outGatesOf 10 = .ok (.iconst 0, 1) := by decide +kernel
theorem dX10_outGatesOf_11 : decode cX10_outGatesOf 11 = .ok (.istore_n 2, 1) := by decide +kernel
theorem dX10_outGatesOf_12 : decode cX10_outGatesOf 12 = .ok (.iconst 0, 1) := by decide +kernel
theorem dX10_outGatesOf_13 : decode cX10_outGatesOf 13 = .ok (.istore_n 3, 1) := by decide +kernel
theorem dX10_outGatesOf_14 : decode cX10_outGatesOf 14 = .ok (.iload_n 3, 1) := by decide +kernel
theorem dX10_outGatesOf_15 : decode cX10_outGatesOf 15 = .ok (.aload_n 0, 1) := by decide +kernel
theorem dX10_outGatesOf_16 : decode cX10_outGatesOf 16 = .ok (.invokevirtual 80, 3) := by decide +kernel
theorem dX10_outGatesOf_19 : decode cX10_outGatesOf 19 = .ok (.if_icmp .ge 42, 3) := by decide +kernel
theorem dX10_outGatesOf_22 : decode cX10_outGatesOf 22 = .ok (.iload_n 3, 1) := by decide +kernel
theorem dX10_outGatesOf_23 : decode cX10_outGatesOf 23 = .ok (.iload_n 1, 1) := by decide +kernel
theorem dX10_outGatesOf_24 : decode cX10_outGatesOf 24 = .ok (.if_icmp .eq 31, 3) := by decide +kernel
theorem dX10_outGatesOf_27 : decode cX10_outGatesOf 27 = .ok (.aload_n 0, 1) := by decide +kernel
theorem dX10_outGatesOf_28 : decode cX10_outGatesOf 28 = .ok (.iconst 1, 1) := by decide +kernel
theorem dX10_outGatesOf_29 : decode cX10_outGatesOf 29 = .ok (.aload_n 0, 1) := by decide +kernel
theorem dX10_outGatesOf_30 : decode cX10_outGatesOf 30 = .ok (.getfield 13, 3) := by decide +kernel
theorem dX10_outGatesOf_33 : decode cX10_outGatesOf 33 = .ok (.iconst 2, 1) := by decide +kernel
theorem dX10_outGatesOf_34 : decode cX10_outGatesOf 34 = .ok (.iaload, 1) := by decide +kernel
theorem dX10_outGatesOf_35 : decode cX10_outGatesOf 35 = .ok (.ishl, 1) := by decide +kernel
theorem dX10_outGatesOf_36 : decode cX10_outGatesOf 36 = .ok (.iconst 1, 1) := by decide +kernel
theorem dX10_outGatesOf_37 : decode cX10_outGatesOf 37 = .ok (.iload_n 3, 1) := by decide +kernel
theorem dX10_outGatesOf_38 : decode cX10_outGatesOf 38 = .ok (.ishl, 1) := by decide +kernel
theorem dX10_outGatesOf_39 : decode cX10_outGatesOf 39 = .ok (.invokevirtual 285, 3) := by decide +kernel
theorem dX10_outGatesOf_42 : decode cX10_outGatesOf 42 = .ok (.iload_n 1, 1) := by decide +kernel
theorem dX10_outGatesOf_43 : decode cX10_outGatesOf 43 = .ok (.invokestatic 99, 3) := by decide +kernel
theorem dX10_outGatesOf_46 : decode cX10_outGatesOf 46 = .ok (.ifCond .ne 9, 3) := by decide +kernel
theorem dX10_outGatesOf_49 : decode cX10_outGatesOf 49 = .ok (.iload_n 2, 1) := by decide +kernel
theorem dX10_outGatesOf_50 : decode cX10_outGatesOf 50 = .ok (.iconst 1, 1) := by decide +kernel
theorem dX10_outGatesOf_51 : decode cX10_outGatesOf 51 = .ok (.iload_n 3, 1) := by decide +kernel
theorem dX10_outGatesOf_52 : decode cX10_outGatesOf 52 = .ok (.ishl, 1) := by decide +kernel
theorem dX10_outGatesOf_53 : decode cX10_outGatesOf 53 = .ok (.ior, 1) := by decide +kernel
theorem dX10_outGatesOf_54 : decode cX10_outGatesOf 54 = .ok (.istore_n 2, 1) := by decide +kernel
theorem dX10_outGatesOf_55 : decode cX10_outGatesOf 55 = .ok (.iinc 3 1, 3) := by decide +kernel
theorem dX10_outGatesOf_58 : decode cX10_outGatesOf 58 = .ok (.goto (-44), 3) := by decide +kernel
theorem dX10_outGatesOf_61 : decode cX10_outGatesOf 61 = .ok (.iload_n 2, 1) := by decide +kernel
theorem dX10_outGatesOf_62 : decode cX10_outGatesOf 62 = .ok (.ireturn, 1) := by decide +kernel
theorem dX10_outKeeperOf_0 : decode cX10_outKeeperOf 0 = .ok (.aload_n 0, 1) := by decide +kernel
theorem dX10_outKeeperOf_1 : decode cX10_outKeeperOf 1 = .ok (.iload_n 1, 1) := by decide +kernel
theorem dX10_outKeeperOf_2 : decode cX10_outKeeperOf 2 = .ok (.invokevirtual 294, 3) := by decide +kernel
theorem dX10_outKeeperOf_5 : decode cX10_outKeeperOf 5 = .ok (.istore_n 2, 1) := by decide +kernel
theorem dX10_outKeeperOf_6 : decode cX10_outKeeperOf 6 = .ok (.iconst 0, 1) := by decide +kernel
theorem dX10_outKeeperOf_7 : decode cX10_outKeeperOf 7 = .ok (.istore_n 3, 1) := by decide +kernel
theorem dX10_outKeeperOf_8 : decode cX10_outKeeperOf 8 = .ok (.iload_n 3, 1) := by decide +kernel
theorem dX10_outKeeperOf_9 : decode cX10_outKeeperOf 9 = .ok (.aload_n 0, 1) := by decide +kernel
theorem dX10_outKeeperOf_10 : decode cX10_outKeeperOf 10 = .ok (.invokevirtual 80, 3) := by decide +kernel
theorem dX10_outKeeperOf_13 : decode cX10_outKeeperOf 13 = .ok (.if_icmp .ge 37, 3) := by decide +kernel
theorem dX10_outKeeperOf_16 : decode cX10_outKeeperOf 16 = .ok (.iload_n 2, 1) := by decide +kernel
theorem dX10_outKeeperOf_17 : decode cX10_outKeeperOf 17 = .ok (.iload_n 3, 1) := by decide +kernel
theorem dX10_outKeeperOf_18 : decode cX10_outKeeperOf 18 = .ok (.invokestatic 99, 3) := by decide +kernel
theorem dX10_outKeeperOf_21 : decode cX10_outKeeperOf 21 = .ok (.ifCond .eq 23, 3) := by decide +kernel
theorem dX10_outKeeperOf_24 : decode cX10_outKeeperOf 24 = .ok (.iload_n 2, 1) := by decide +kernel
theorem dX10_outKeeperOf_25 : decode cX10_outKeeperOf 25 = .ok (.iconst 1, 1) := by decide +kernel
theorem dX10_outKeeperOf_26 : decode cX10_outKeeperOf 26 = .ok (.iload_n 3, 1) := by decide +kernel
theorem dX10_outKeeperOf_27 : decode cX10_outKeeperOf 27 = .ok (.ishl, 1) := by decide +kernel
theorem dX10_outKeeperOf_28 : decode cX10_outKeeperOf 28 = .ok (.iconst (-1), 1) := by decide +kernel
theorem dX10_outKeeperOf_29 : decode cX10_outKeeperOf 29 = .ok (.ixor, 1) := by decide +kernel
theorem dX10_outKeeperOf_30 : decode cX10_outKeeperOf 30 = .ok (.iand, 1) := by decide +kernel
theorem dX10_outKeeperOf_31 : decode cX10_outKeeperOf 31 = .ok (.aload_n 0, 1) := by decide +kernel
theorem dX10_outKeeperOf_32 : decode cX10_outKeeperOf 32 = .ok (.iload_n 3, 1) := by decide +kernel
theorem dX10_outKeeperOf_33 : decode cX10_outKeeperOf 33 = .ok (.invokevirtual 294, 3) := by decide +kernel
theorem dX10_outKeeperOf_36 : decode cX10_outKeeperOf 36 = .ok (.iconst (-1), 1) := by decide +kernel
theorem dX10_outKeeperOf_37 : decode cX10_outKeeperOf 37 = .ok (.ixor, 1) := by decide +kernel
theorem dX10_outKeeperOf_38 : decode cX10_outKeeperOf 38 = .ok (.iand, 1) := by decide +kernel
theorem dX10_outKeeperOf_39 : decode cX10_outKeeperOf 39 = .ok (.ifCond .ne 5, 3) := by decide +kernel
theorem dX10_outKeeperOf_42 : decode cX10_outKeeperOf 42 = .ok (.iload_n 3, 1) := by decide +kernel
theorem dX10_outKeeperOf_43 : decode cX10_outKeeperOf 43 = .ok (.ireturn, 1) := by decide +kernel
theorem dX10_outKeeperOf_44 : decode cX10_outKeeperOf 44 = .ok (.iinc 3 1, 3) := by decide +kernel
theorem dX10_outKeeperOf_47 : decode cX10_outKeeperOf 47 = .ok (.goto (-39), 3) := by decide +kernel
theorem dX10_outKeeperOf_50 : decode cX10_outKeeperOf 50 = .ok (.iconst (-1), 1) := by decide +kernel
theorem dX10_outKeeperOf_51 : decode cX10_outKeeperOf 51 = .ok (.ireturn, 1) := by decide +kernel
theorem dX10_flows_0 : decode cX10_flows 0 = .ok (.iconst 1, 1) := by decide +kernel
theorem dX10_flows_1 : decode cX10_flows 1 = .ok (.aload_n 0, 1) := by decide +kernel
theorem dX10_flows_2 : decode cX10_flows 2 = .ok (.invokevirtual 109, 3) := by decide +kernel
theorem dX10_flows_5 : decode cX10_flows 5 = .ok (.ishl, 1) := by decide +kernel
theorem dX10_flows_6 : decode cX10_flows 6 = .ok (.istore_n 2, 1) := by decide +kernel
theorem dX10_flows_7 : decode cX10_flows 7 = .ok (.iconst 0, 1) := by decide +kernel
theorem dX10_flows_8 : decode cX10_flows 8 = .ok (.istore_n 3, 1) := by decide +kernel
theorem dX10_flows_9 : decode cX10_flows 9 = .ok (.iload_n 2, 1) := by decide +kernel
theorem dX10_flows_10 : decode cX10_flows 10 = .ok (.iload_n 3, 1) := by decide +kernel
theorem dX10_flows_11 : decode cX10_flows 11 = .ok (.if_icmp .eq 184, 3) := by decide +kernel
theorem dX10_flows_14 : decode cX10_flows 14 = .ok (.iload_n 2, 1) := by decide +kernel
theorem dX10_flows_15 : decode cX10_flows 15 = .ok (.iload_n 1, 1) := by decide +kernel
theorem dX10_flows_16 : decode cX10_flows 16 = .ok (.invokestatic 99, 3) := by decide +kernel
theorem dX10_flows_19 : decode cX10_flows 19 = .ok (.ifCond .ne 176, 3) := by decide +kernel
theorem dX10_flows_22 : decode cX10_flows 22 = .ok (.iload_n 2, 1) := by decide +kernel
theorem dX10_flows_23 : decode cX10_flows 23 = .ok (.istore_n 3, 1) := by decide +kernel
theorem dX10_flows_24 : decode cX10_flows 24 = .ok (.iconst 0, 1) := by decide +kernel
theorem dX10_flows_25 : decode cX10_flows 25 = .ok (.istore 4, 2) := by decide +kernel
theorem dX10_flows_27 : decode cX10_flows 27 = .ok (.iload 4, 2) := by decide +kernel
theorem dX10_flows_29 : decode cX10_flows 29 = .ok (.aload_n 0, 1) := by decide +kernel
theorem dX10_flows_30 : decode cX10_flows 30 = .ok (.invokevirtual 88, 3) := by decide +kernel
theorem dX10_flows_33 : decode cX10_flows 33 = .ok (.if_icmp .ge 159, 3) := by decide +kernel
theorem dX10_flows_36 : decode cX10_flows 36 = .ok (.aload_n 0, 1) := by decide +kernel
theorem dX10_flows_37 : decode cX10_flows 37 = .ok (.iload 4, 2) := by decide +kernel
theorem dX10_flows_39 : decode cX10_flows 39 = .ok (.invokevirtual 91, 3) := by decide +kernel
theorem dX10_flows_42 : decode cX10_flows 42 = .ok (.ifCond .ne 6, 3) := by decide +kernel
theorem dX10_flows_45 : decode cX10_flows 45 = .ok (.goto 141, 3) := by decide +kernel
theorem dX10_flows_48 : decode cX10_flows 48 = .ok (.aload_n 0, 1) := by decide +kernel
theorem dX10_flows_49 : decode cX10_flows 49 = .ok (.getfield 60, 3) := by decide +kernel
theorem dX10_flows_52 : decode cX10_flows 52 = .ok (.iload 4, 2) := by decide +kernel
theorem dX10_flows_54 : decode cX10_flows 54 = .ok (.iaload, 1) := by decide +kernel
theorem dX10_flows_55 : decode cX10_flows 55 = .ok (.ifCond .ne 33, 3) := by decide +kernel
theorem dX10_flows_58 : decode cX10_flows 58 = .ok (.iload_n 2, 1) := by decide +kernel
theorem dX10_flows_59 : decode cX10_flows 59 = .ok (.aload_n 0, 1) := by decide +kernel
theorem dX10_flows_60 : decode cX10_flows 60 = .ok (.iload 4, 2) := by decide +kernel
theorem dX10_flows_62 : decode cX10_flows 62 = .ok (.invokevirtual 95, 3) := by decide +kernel
theorem dX10_flows_65 : decode cX10_flows 65 = .ok (.invokestatic 99, 3) := by decide +kernel
theorem dX10_flows_68 : decode cX10_flows 68 = .ok (.ifCond .eq 20, 3) := by decide +kernel
theorem dX10_flows_71 : decode cX10_flows 71 = .ok (.iload_n 2, 1) := by decide +kernel
theorem dX10_flows_72 : decode cX10_flows 72 = .ok (.aload_n 0, 1) := by decide +kernel
theorem dX10_flows_73 : decode cX10_flows 73 = .ok (.iload 4, 2) := by decide +kernel
theorem dX10_flows_75 : decode cX10_flows 75 = .ok (.invokevirtual 103, 3) := by decide +kernel
theorem dX10_flows_78 : decode cX10_flows 78 = .ok (.invokestatic 99, 3) := by decide +kernel
theorem dX10_flows_81 : decode cX10_flows 81 = .ok (.ifCond .ne 7, 3) := by decide +kernel
theorem dX10_flows_84 : decode cX10_flows 84 = .ok (.iconst 1, 1) := by decide +kernel
theorem dX10_flows_85 : decode cX10_flows 85 = .ok (.goto 4, 3) := by decide +kernel
theorem dX10_flows_88 : decode cX10_flows 88 = .ok (.iconst 0, 1) := by decide +kernel
theorem dX10_flows_89 : decode cX10_flows 89 = .ok (.istore 5, 2) := by decide +kernel
theorem dX10_flows_91 : decode cX10_flows 91 = .ok (.aload_n 0, 1) := by decide +kernel
theorem dX10_flows_92 : decode cX10_flows 92 = .ok (.getfield 60, 3) := by decide +kernel
theorem dX10_flows_95 : decode cX10_flows 95 = .ok (.iload 4, 2) := by decide +kernel
theorem dX10_flows_97 : decode cX10_flows 97 = .ok (.iaload, 1) := by decide +kernel
theorem dX10_flows_98 : decode cX10_flows 98 = .ok (.iconst 1, 1) := by decide +kernel
theorem dX10_flows_99 : decode cX10_flows 99 = .ok (.if_icmp .ne 33, 3) := by decide +kernel
theorem dX10_flows_102 : decode cX10_flows 102 = .ok (.iload_n 2, 1) := by decide +kernel
theorem dX10_flows_103 : decode cX10_flows 103 = .ok (.aload_n 0, 1) := by decide +kernel
theorem dX10_flows_104 : decode cX10_flows 104 = .ok (.iload 4, 2) := by decide +kernel
theorem dX10_flows_106 : decode cX10_flows 106 = .ok (.invokevirtual 103, 3) := by decide +kernel
theorem dX10_flows_109 : decode cX10_flows 109 = .ok (.invokestatic 99, 3) := by decide +kernel
theorem dX10_flows_112 : decode cX10_flows 112 = .ok (.ifCond .eq 20, 3) := by decide +kernel
theorem dX10_flows_115 : decode cX10_flows 115 = .ok (.iload_n 2, 1) := by decide +kernel
theorem dX10_flows_116 : decode cX10_flows 116 = .ok (.aload_n 0, 1) := by decide +kernel
theorem dX10_flows_117 : decode cX10_flows 117 = .ok (.iload 4, 2) := by decide +kernel
theorem dX10_flows_119 : decode cX10_flows 119 = .ok (.invokevirtual 95, 3) := by decide +kernel
theorem dX10_flows_122 : decode cX10_flows 122 = .ok (.invokestatic 99, 3) := by decide +kernel
theorem dX10_flows_125 : decode cX10_flows 125 = .ok (.ifCond .ne 7, 3) := by decide +kernel
theorem dX10_flows_128 : decode cX10_flows 128 = .ok (.iconst 1, 1) := by decide +kernel
theorem dX10_flows_129 : decode cX10_flows 129 = .ok (.goto 4, 3) := by decide +kernel
theorem dX10_flows_132 : decode cX10_flows 132 = .ok (.iconst 0, 1) := by decide +kernel
theorem dX10_flows_133 : decode cX10_flows 133 = .ok (.istore 6, 2) := by decide +kernel
theorem dX10_flows_135 : decode cX10_flows 135 = .ok (.iload 5, 2) := by decide +kernel
theorem dX10_flows_137 : decode cX10_flows 137 = .ok (.ifCond .ne 11, 3) := by decide +kernel
theorem dX10_flows_140 : decode cX10_flows 140 = .ok (.iload 6, 2) := by decide +kernel
theorem dX10_flows_142 : decode cX10_flows 142 = .ok (.ifCond .ne 6, 3) := by decide +kernel
theorem dX10_flows_145 : decode cX10_flows 145 = .ok (.goto 41, 3) := by decide +kernel
theorem dX10_flows_148 : decode cX10_flows 148 = .ok (.iload 5, 2) := by decide +kernel
theorem dX10_flows_150 : decode cX10_flows 150 = .ok (.ifCond .eq 12, 3) := by decide +kernel
theorem dX10_flows_153 : decode cX10_flows 153 = .ok (.aload_n 0, 1) := by decide +kernel
theorem dX10_flows_154 : decode cX10_flows 154 = .ok (.iload 4, 2) := by decide +kernel
theorem dX10_flows_156 : decode cX10_flows 156 = .ok (.invokevirtual 103, 3) := by decide +kernel
theorem dX10_flows_159 : decode cX10_flows 159 = .ok (.goto 9, 3) := by decide +kernel
theorem dX10_flows_162 : decode cX10_flows 162 = .ok (.aload_n 0, 1) := by decide +kernel
theorem dX10_flows_163 : decode cX10_flows 163 = .ok (.iload 4, 2) := by decide +kernel
theorem dX10_flows_165 : decode cX10_flows 165 = .ok (.invokevirtual 95, 3) := by decide +kernel
theorem dX10_flows_168 : decode cX10_flows 168 = .ok (.istore 7, 2) := by decide +kernel
theorem dX10_flows_170 : decode cX10_flows 170 = .ok (.iload_n 2, 1) := by decide +kernel
theorem dX10_flows_171 : decode cX10_flows 171 = .ok (.iconst 1, 1) := by decide +kernel
theorem dX10_flows_172 : decode cX10_flows 172 = .ok (.iload 7, 2) := by decide +kernel
theorem dX10_flows_174 : decode cX10_flows 174 = .ok (.ishl, 1) := by decide +kernel
theorem dX10_flows_175 : decode cX10_flows 175 = .ok (.ior, 1) := by decide +kernel
theorem dX10_flows_176 : decode cX10_flows 176 = .ok (.istore_n 2, 1) := by decide +kernel
theorem dX10_flows_177 : decode cX10_flows 177 = .ok (.aload_n 0, 1) := by decide +kernel
theorem dX10_flows_178 : decode cX10_flows 178 = .ok (.getfield 63, 3) := by decide +kernel
theorem dX10_flows_181 : decode cX10_flows 181 = .ok (.iload 7, 2) := by decide +kernel
theorem dX10_flows_183 : decode cX10_flows 183 = .ok (.iload 4, 2) := by decide +kernel
theorem dX10_flows_185 : decode cX10_flows 185 = .ok (.iastore, 1) := by decide +kernel
theorem dX10_flows_186 : decode cX10_flows 186 = .ok (.iinc 4 1, 3) := by decide +kernel
theorem dX10_flows_189 : decode cX10_flows 189 = .ok (.goto (-162), 3) := by decide +kernel
theorem dX10_flows_192 : decode cX10_flows 192 = .ok (.goto (-183), 3) := by decide +kernel
theorem dX10_flows_195 : decode cX10_flows 195 = .ok (.iload_n 2, 1) := by decide +kernel
theorem dX10_flows_196 : decode cX10_flows 196 = .ok (.iload_n 1, 1) := by decide +kernel
theorem dX10_flows_197 : decode cX10_flows 197 = .ok (.invokestatic 99, 3) := by decide +kernel
theorem dX10_flows_200 : decode cX10_flows 200 = .ok (.ifCond .ne 5, 3) := by decide +kernel
theorem dX10_flows_203 : decode cX10_flows 203 = .ok (.iconst 0, 1) := by decide +kernel
theorem dX10_flows_204 : decode cX10_flows 204 = .ok (.ireturn, 1) := by decide +kernel
theorem dX10_flows_205 : decode cX10_flows 205 = .ok (.iload_n 1, 1) := by decide +kernel
theorem dX10_flows_206 : decode cX10_flows 206 = .ok (.istore 4, 2) := by decide +kernel
theorem dX10_flows_208 : decode cX10_flows 208 = .ok (.iload 4, 2) := by decide +kernel
theorem dX10_flows_210 : decode cX10_flows 210 = .ok (.aload_n 0, 1) := by decide +kernel
theorem dX10_flows_211 : decode cX10_flows 211 = .ok (.invokevirtual 109, 3) := by decide +kernel
theorem dX10_flows_214 : decode cX10_flows 214 = .ok (.if_icmp .eq 82, 3) := by decide +kernel
theorem dX10_flows_217 : decode cX10_flows 217 = .ok (.aload_n 0, 1) := by decide +kernel
theorem dX10_flows_218 : decode cX10_flows 218 = .ok (.getfield 63, 3) := by decide +kernel
theorem dX10_flows_221 : decode cX10_flows 221 = .ok (.iload 4, 2) := by decide +kernel
theorem dX10_flows_223 : decode cX10_flows 223 = .ok (.iaload, 1) := by decide +kernel
theorem dX10_flows_224 : decode cX10_flows 224 = .ok (.istore 5, 2) := by decide +kernel
theorem dX10_flows_226 : decode cX10_flows 226 = .ok (.aload_n 0, 1) := by decide +kernel
theorem dX10_flows_227 : decode cX10_flows 227 = .ok (.iload 5, 2) := by decide +kernel
theorem dX10_flows_229 : decode cX10_flows 229 = .ok (.invokevirtual 103, 3) := by decide +kernel
theorem dX10_flows_232 : decode cX10_flows 232 = .ok (.iload 4, 2) := by decide +kernel
theorem dX10_flows_234 : decode cX10_flows 234 = .ok (.if_icmp .ne 17, 3) := by decide +kernel
theorem dX10_flows_237 : decode cX10_flows 237 = .ok (.aload_n 0, 1) := by decide +kernel
theorem dX10_flows_238 : decode cX10_flows 238 = .ok (.getfield 60, 3) := by decide +kernel
theorem dX10_flows_241 : decode cX10_flows 241 = .ok (.iload 5, 2) := by decide +kernel
theorem dX10_flows_243 : decode cX10_flows 243 = .ok (.iaload, 1) := by decide +kernel
theorem dX10_flows_244 : decode cX10_flows 244 = .ok (.ifCond .ne 7, 3) := by decide +kernel
theorem dX10_flows_247 : decode cX10_flows 247 = .ok (.iconst 1, 1) := by decide +kernel
theorem dX10_flows_248 : decode cX10_flows 248 = .ok (.goto 4, 3) := by decide +kernel
theorem dX10_flows_251 : decode cX10_flows 251 = .ok (.iconst 0, 1) := by decide +kernel
theorem dX10_flows_252 : decode cX10_flows 252 = .ok (.istore 6, 2) := by decide +kernel
theorem dX10_flows_254 : decode cX10_flows 254 = .ok (.aload_n 0, 1) := by decide +kernel
theorem dX10_flows_255 : decode cX10_flows 255 = .ok (.getfield 60, 3) := by decide +kernel
theorem dX10_flows_258 : decode cX10_flows 258 = .ok (.iload 5, 2) := by decide +kernel
theorem dX10_flows_260 : decode cX10_flows 260 = .ok (.iload 6, 2) := by decide +kernel
theorem dX10_flows_262 : decode cX10_flows 262 = .ok (.ifCond .eq 7, 3) := by decide +kernel
theorem dX10_flows_265 : decode cX10_flows 265 = .ok (.iconst 1, 1) := by decide +kernel
theorem dX10_flows_266 : decode cX10_flows 266 = .ok (.goto 4, 3) := by decide +kernel
theorem dX10_flows_269 : decode cX10_flows 269 = .ok (.iconst 0, 1) := by decide +kernel
theorem dX10_flows_270 : decode cX10_flows 270 = .ok (.iastore, 1) := by decide +kernel
theorem dX10_flows_271 : decode cX10_flows 271 = .ok (.iload 6, 2) := by decide +kernel
theorem dX10_flows_273 : decode cX10_flows 273 = .ok (.ifCond .eq 12, 3) := by decide +kernel
theorem dX10_flows_276 : decode cX10_flows 276 = .ok (.aload_n 0, 1) := by decide +kernel
theorem dX10_flows_277 : decode cX10_flows 277 = .ok (.iload 5, 2) := by decide +kernel
theorem dX10_flows_279 : decode cX10_flows 279 = .ok (.invokevirtual 95, 3) := by decide +kernel
theorem dX10_flows_282 : decode cX10_flows 282 = .ok (.goto 9, 3) := by decide +kernel
theorem dX10_flows_285 : decode cX10_flows 285 = .ok (.aload_n 0, 1) := by decide +kernel
theorem dX10_flows_286 : decode cX10_flows 286 = .ok (.iload 5, 2) := by decide +kernel
theorem dX10_flows_288 : decode cX10_flows 288 = .ok (.invokevirtual 103, 3) := by decide +kernel
theorem dX10_flows_291 : decode cX10_flows 291 = .ok (.istore 4, 2) := by decide +kernel
theorem dX10_flows_293 : decode cX10_flows 293 = .ok (.goto (-85), 3) := by decide +kernel
theorem dX10_flows_296 : decode cX10_flows 296 = .ok (.iconst 1, 1) := by decide +kernel
theorem dX10_flows_297 : decode cX10_flows 297 = .ok (.ireturn, 1) := by decide +kernel
theorem dX10_hardOf_0 : decode cX10_hardOf 0 = .ok (.iload_n 1, 1) := by decide +kernel
theorem dX10_hardOf_1 : decode cX10_hardOf 1 = .ok (.aload_n 0, 1) := by decide +kernel
theorem dX10_hardOf_2 : decode cX10_hardOf 2 = .ok (.invokevirtual 109, 3) := by decide +kernel
theorem dX10_hardOf_5 : decode cX10_hardOf 5 = .ok (.if_icmp .ne 6, 3) := by decide +kernel
theorem dX10_hardOf_8 : decode cX10_hardOf 8 = .ok (.bipush 99, 2) := by decide +kernel
theorem dX10_hardOf_10 : decode cX10_hardOf 10 = .ok (.ireturn, 1) := by decide +kernel
theorem dX10_hardOf_11 : decode cX10_hardOf 11 = .ok (.iconst 0, 1) := by decide +kernel
theorem dX10_hardOf_12 : decode cX10_hardOf 12 = .ok (.istore_n 2, 1) := by decide +kernel
theorem dX10_hardOf_13 : decode cX10_hardOf 13 = .ok (.iload_n 2, 1) := by decide +kernel
theorem dX10_hardOf_14 : decode cX10_hardOf 14 = .ok (.bipush 60, 2) := by decide +kernel
theorem dX10_hardOf_16 : decode cX10_hardOf 16 = .ok (.if_icmp .ge 16, 3) := by decide +kernel
theorem dX10_hardOf_19 : decode cX10_hardOf 19 = .ok (.aload_n 0, 1) := by decide +kernel
theorem dX10_hardOf_20 : decode cX10_hardOf 20 = .ok (.getfield 60, 3) := by decide +kernel
theorem dX10_hardOf_23 : decode cX10_hardOf 23 = .ok (.iload_n 2, 1) := by decide +kernel
theorem dX10_hardOf_24 : decode cX10_hardOf 24 = .ok (.iconst 0, 1) := by decide +kernel
theorem dX10_hardOf_25 : decode cX10_hardOf 25 = .ok (.iastore, 1) := by decide +kernel
theorem dX10_hardOf_26 : decode cX10_hardOf 26 = .ok (.iinc 2 1, 3) := by decide +kernel
theorem dX10_hardOf_29 : decode cX10_hardOf 29 = .ok (.goto (-16), 3) := by decide +kernel
theorem dX10_hardOf_32 : decode cX10_hardOf 32 = .ok (.iconst 0, 1) := by decide +kernel
theorem dX10_hardOf_33 : decode cX10_hardOf 33 = .ok (.istore_n 2, 1) := by decide +kernel
theorem dX10_hardOf_34 : decode cX10_hardOf 34 = .ok (.aload_n 0, 1) := by decide +kernel
theorem dX10_hardOf_35 : decode cX10_hardOf 35 = .ok (.iload_n 1, 1) := by decide +kernel
theorem dX10_hardOf_36 : decode cX10_hardOf 36 = .ok (.invokevirtual 297, 3) := by decide +kernel
theorem dX10_hardOf_39 : decode cX10_hardOf 39 = .ok (.ifCond .eq 9, 3) := by decide +kernel
theorem dX10_hardOf_42 : decode cX10_hardOf 42 = .ok (.iinc 2 1, 3) := by decide +kernel
theorem dX10_hardOf_45 : decode cX10_hardOf 45 = .ok (.goto (-11), 3) := by decide +kernel
theorem dX10_hardOf_48 : decode cX10_hardOf 48 = .ok (.iload_n 2, 1) := by decide +kernel
theorem dX10_hardOf_49 : decode cX10_hardOf 49 = .ok (.ireturn, 1) := by decide +kernel
theorem dX10_wallOf_0 : decode cX10_wallOf 0 = .ok (.iload_n 1, 1) := by decide +kernel
theorem dX10_wallOf_1 : decode cX10_wallOf 1 = .ok (.aload_n 0, 1) := by decide +kernel
theorem dX10_wallOf_2 : decode cX10_wallOf 2 = .ok (.invokevirtual 109, 3) := by decide +kernel
theorem dX10_wallOf_5 : decode cX10_wallOf 5 = .ok (.if_icmp .ne 5, 3) := by decide +kernel
theorem dX10_wallOf_8 : decode cX10_wallOf 8 = .ok (.iconst (-1), 1) := by decide +kernel
theorem dX10_wallOf_9 : decode cX10_wallOf 9 = .ok (.ireturn, 1) := by decide +kernel
theorem dX10_wallOf_10 : decode cX10_wallOf 10 = .ok (.iconst 0, 1) := by decide +kernel
theorem dX10_wallOf_11 : decode cX10_wallOf 11 = .ok (.istore_n 2, 1) := by decide +kernel
theorem dX10_wallOf_12 : decode cX10_wallOf 12 = .ok (.iload_n 2, 1) := by decide +kernel
theorem dX10_wallOf_13 : decode cX10_wallOf 13 = .ok (.aload_n 0, 1) := by decide +kernel
theorem dX10_wallOf_14 : decode cX10_wallOf 14 = .ok (.invokevirtual 88, 3) := by decide +kernel
theorem dX10_wallOf_17 : decode cX10_wallOf 17 = .ok (.if_icmp .ge 40, 3) := by decide +kernel
theorem dX10_wallOf_20 : decode cX10_wallOf 20 = .ok (.aload_n 0, 1) := by decide +kernel
theorem dX10_wallOf_21 : decode cX10_wallOf 21 = .ok (.iload_n 2, 1) := by decide +kernel
theorem dX10_wallOf_22 : decode cX10_wallOf 22 = .ok (.invokevirtual 91, 3) := by decide +kernel
theorem dX10_wallOf_25 : decode cX10_wallOf 25 = .ok (.ifCond .eq 26, 3) := by decide +kernel
theorem dX10_wallOf_28 : decode cX10_wallOf 28 = .ok (.aload_n 0, 1) := by decide +kernel
theorem dX10_wallOf_29 : decode cX10_wallOf 29 = .ok (.iload_n 2, 1) := by decide +kernel
theorem dX10_wallOf_30 : decode cX10_wallOf 30 = .ok (.invokevirtual 95, 3) := by decide +kernel
theorem dX10_wallOf_33 : decode cX10_wallOf 33 = .ok (.aload_n 0, 1) := by decide +kernel
theorem dX10_wallOf_34 : decode cX10_wallOf 34 = .ok (.invokevirtual 109, 3) := by decide +kernel
theorem dX10_wallOf_37 : decode cX10_wallOf 37 = .ok (.if_icmp .ne 14, 3) := by decide +kernel
theorem dX10_wallOf_40 : decode cX10_wallOf 40 = .ok (.aload_n 0, 1) := by decide +kernel
theorem dX10_wallOf_41 : decode cX10_wallOf 41 = .ok (.iload_n 2, 1) := by decide +kernel
theorem dX10_wallOf_42 : decode cX10_wallOf 42 = .ok (.invokevirtual 103, 3) := by decide +kernel
theorem dX10_wallOf_45 : decode cX10_wallOf 45 = .ok (.iload_n 1, 1) := by decide +kernel
theorem dX10_wallOf_46 : decode cX10_wallOf 46 = .ok (.if_icmp .ne 5, 3) := by decide +kernel
theorem dX10_wallOf_49 : decode cX10_wallOf 49 = .ok (.iconst (-1), 1) := by decide +kernel
theorem dX10_wallOf_50 : decode cX10_wallOf 50 = .ok (.ireturn, 1) := by decide +kernel
theorem dX10_wallOf_51 : decode cX10_wallOf 51 = .ok (.iinc 2 1, 3) := by decide +kernel
theorem dX10_wallOf_54 : decode cX10_wallOf 54 = .ok (.goto (-42), 3) := by decide +kernel
theorem dX10_wallOf_57 : decode cX10_wallOf 57 = .ok (.iconst 1, 1) := by decide +kernel
theorem dX10_wallOf_58 : decode cX10_wallOf 58 = .ok (.aload_n 0, 1) := by decide +kernel
theorem dX10_wallOf_59 : decode cX10_wallOf 59 = .ok (.invokevirtual 80, 3) := by decide +kernel
theorem dX10_wallOf_62 : decode cX10_wallOf 62 = .ok (.ishl, 1) := by decide +kernel
theorem dX10_wallOf_63 : decode cX10_wallOf 63 = .ok (.iconst 1, 1) := by decide +kernel
theorem dX10_wallOf_64 : decode cX10_wallOf 64 = .ok (.isub, 1) := by decide +kernel
theorem dX10_wallOf_65 : decode cX10_wallOf 65 = .ok (.iconst 1, 1) := by decide +kernel
theorem dX10_wallOf_66 : decode cX10_wallOf 66 = .ok (.iload_n 1, 1) := by decide +kernel
theorem dX10_wallOf_67 : decode cX10_wallOf 67 = .ok (.ishl, 1) := by decide +kernel
theorem dX10_wallOf_68 : decode cX10_wallOf 68 = .ok (.iconst (-1), 1) := by decide +kernel
theorem dX10_wallOf_69 : decode cX10_wallOf 69 = .ok (.ixor, 1) := by decide +kernel
theorem dX10_wallOf_70 : decode cX10_wallOf 70 = .ok (.iand, 1) := by decide +kernel
theorem dX10_wallOf_71 : decode cX10_wallOf 71 = .ok (.iconst 1, 1) := by decide +kernel
theorem dX10_wallOf_72 : decode cX10_wallOf 72 = .ok (.aload_n 0, 1) := by decide +kernel
theorem dX10_wallOf_73 : decode cX10_wallOf 73 = .ok (.invokevirtual 109, 3) := by decide +kernel
theorem dX10_wallOf_76 : decode cX10_wallOf 76 = .ok (.ishl, 1) := by decide +kernel
theorem dX10_wallOf_77 : decode cX10_wallOf 77 = .ok (.iconst (-1), 1) := by decide +kernel
theorem dX10_wallOf_78 : decode cX10_wallOf 78 = .ok (.ixor, 1) := by decide +kernel
theorem dX10_wallOf_79 : decode cX10_wallOf 79 = .ok (.iand, 1) := by decide +kernel
theorem dX10_wallOf_80 : decode cX10_wallOf 80 = .ok (.istore_n 2, 1) := by decide +kernel
theorem dX10_wallOf_81 : decode cX10_wallOf 81 = .ok (.bipush 16, 2) := by decide +kernel
theorem dX10_wallOf_83 : decode cX10_wallOf 83 = .ok (.istore_n 3, 1) := by decide +kernel
theorem dX10_wallOf_84 : decode cX10_wallOf 84 = .ok (.iconst 0, 1) := by decide +kernel
theorem dX10_wallOf_85 : decode cX10_wallOf 85 = .ok (.istore 4, 2) := by decide +kernel
theorem dX10_wallOf_87 : decode cX10_wallOf 87 = .ok (.iload 4, 2) := by decide +kernel
theorem dX10_wallOf_89 : decode cX10_wallOf 89 = .ok (.iconst 1, 1) := by decide +kernel
theorem dX10_wallOf_90 : decode cX10_wallOf 90 = .ok (.aload_n 0, 1) := by decide +kernel
theorem dX10_wallOf_91 : decode cX10_wallOf 91 = .ok (.invokevirtual 80, 3) := by decide +kernel
theorem dX10_wallOf_94 : decode cX10_wallOf 94 = .ok (.ishl, 1) := by decide +kernel
theorem dX10_wallOf_95 : decode cX10_wallOf 95 = .ok (.if_icmp .ge 50, 3) := by decide +kernel
theorem dX10_wallOf_98 : decode cX10_wallOf 98 = .ok (.iload 4, 2) := by decide +kernel
theorem dX10_wallOf_100 : decode cX10_wallOf 100 = .ok (.iload_n 2, 1) := by decide +kernel
theorem dX10_wallOf_101 : decode cX10_wallOf 101 = .ok (.iconst (-1), 1) := by decide +kernel
theorem dX10_wallOf_102 : decode cX10_wallOf 102 = .ok (.ixor, 1) := by decide +kernel
theorem dX10_wallOf_103 : decode cX10_wallOf 103 = .ok (.iand, 1) := by decide +kernel
theorem dX10_wallOf_104 : decode cX10_wallOf 104 = .ok (.ifCond .ne 35, 3) := by decide +kernel
theorem dX10_wallOf_107 : decode cX10_wallOf 107 = .ok (.iload 4, 2) := by decide +kernel
theorem dX10_wallOf_109 : decode cX10_wallOf 109 = .ok (.invokestatic 123, 3) := by decide +kernel
theorem dX10_wallOf_112 : decode cX10_wallOf 112 = .ok (.iload_n 3, 1) := by decide +kernel
theorem dX10_wallOf_113 : decode cX10_wallOf 113 = .ok (.if_icmp .lt 6, 3) := by decide +kernel
theorem dX10_wallOf_116 : decode cX10_wallOf 116 = .ok (.goto 23, 3) := by decide +kernel
theorem dX10_wallOf_119 : decode cX10_wallOf 119 = .ok (.aload_n 0, 1) := by decide +kernel
theorem dX10_wallOf_120 : decode cX10_wallOf 120 = .ok (.iload 4, 2) := by decide +kernel
theorem dX10_wallOf_122 : decode cX10_wallOf 122 = .ok (.iconst (-1), 1) := by decide +kernel
theorem dX10_wallOf_123 : decode cX10_wallOf 123 = .ok (.invokevirtual 116, 3) := by decide +kernel
theorem dX10_wallOf_126 : decode cX10_wallOf 126 = .ok (.iload_n 1, 1) := by decide +kernel
theorem dX10_wallOf_127 : decode cX10_wallOf 127 = .ok (.invokestatic 99, 3) := by decide +kernel
theorem dX10_wallOf_130 : decode cX10_wallOf 130 = .ok (.ifCond .ne 9, 3) := by decide +kernel
theorem dX10_wallOf_133 : decode cX10_wallOf 133 = .ok (.iload 4, 2) := by decide +kernel
theorem dX10_wallOf_135 : decode cX10_wallOf 135 = .ok (.invokestatic 123, 3) := by decide +kernel
theorem dX10_wallOf_138 : decode cX10_wallOf 138 = .ok (.istore_n 3, 1) := by decide +kernel
theorem dX10_wallOf_139 : decode cX10_wallOf 139 = .ok (.iinc 4 1, 3) := by decide +kernel
theorem dX10_wallOf_142 : decode cX10_wallOf 142 = .ok (.goto (-55), 3) := by decide +kernel
theorem dX10_wallOf_145 : decode cX10_wallOf 145 = .ok (.iload_n 3, 1) := by decide +kernel
theorem dX10_wallOf_146 : decode cX10_wallOf 146 = .ok (.ireturn, 1) := by decide +kernel
theorem dX10_feeOf_0 : decode cX10_feeOf 0 = .ok (.aload_n 0, 1) := by decide +kernel
theorem dX10_feeOf_1 : decode cX10_feeOf 1 = .ok (.getfield 13, 3) := by decide +kernel
theorem dX10_feeOf_4 : decode cX10_feeOf 4 = .ok (.iconst 4, 1) := by decide +kernel
theorem dX10_feeOf_5 : decode cX10_feeOf 5 = .ok (.iload_n 1, 1) := by decide +kernel
theorem dX10_feeOf_6 : decode cX10_feeOf 6 = .ok (.iadd, 1) := by decide +kernel
theorem dX10_feeOf_7 : decode cX10_feeOf 7 = .ok (.iaload, 1) := by decide +kernel
theorem dX10_feeOf_8 : decode cX10_feeOf 8 = .ok (.istore_n 2, 1) := by decide +kernel
theorem dX10_feeOf_9 : decode cX10_feeOf 9 = .ok (.iconst 0, 1) := by decide +kernel
theorem dX10_feeOf_10 : decode cX10_feeOf 10 = .ok (.istore_n 3, 1) := by decide +kernel
theorem dX10_feeOf_11 : decode cX10_feeOf 11 = .ok (.iload_n 3, 1) := by decide +kernel
theorem dX10_feeOf_12 : decode cX10_feeOf 12 = .ok (.aload_n 0, 1) := by decide +kernel
theorem dX10_feeOf_13 : decode cX10_feeOf 13 = .ok (.invokevirtual 80, 3) := by decide +kernel
theorem dX10_feeOf_16 : decode cX10_feeOf 16 = .ok (.if_icmp .ge 37, 3) := by decide +kernel
theorem dX10_feeOf_19 : decode cX10_feeOf 19 = .ok (.iload_n 2, 1) := by decide +kernel
theorem dX10_feeOf_20 : decode cX10_feeOf 20 = .ok (.aload_n 0, 1) := by decide +kernel
theorem dX10_feeOf_21 : decode cX10_feeOf 21 = .ok (.getfield 32, 3) := by decide +kernel
theorem dX10_feeOf_24 : decode cX10_feeOf 24 = .ok (.iload_n 1, 1) := by decide +kernel
theorem dX10_feeOf_25 : decode cX10_feeOf 25 = .ok (.iaload, 1) := by decide +kernel
theorem dX10_feeOf_26 : decode cX10_feeOf 26 = .ok (.iload_n 3, 1) := by decide +kernel
theorem dX10_feeOf_27 : decode cX10_feeOf 27 = .ok (.invokestatic 99, 3) := by decide +kernel
theorem dX10_feeOf_30 : decode cX10_feeOf 30 = .ok (.ifCond .eq 14, 3) := by decide +kernel
theorem dX10_feeOf_33 : decode cX10_feeOf 33 = .ok (.aload_n 0, 1) := by decide +kernel
theorem dX10_feeOf_34 : decode cX10_feeOf 34 = .ok (.getfield 13, 3) := by decide +kernel
theorem dX10_feeOf_37 : decode cX10_feeOf 37 = .ok (.iconst 4, 1) := by decide +kernel
theorem dX10_feeOf_38 : decode cX10_feeOf 38 = .ok (.iload_n 3, 1) := by decide +kernel
theorem dX10_feeOf_39 : decode cX10_feeOf 39 = .ok (.iadd, 1) := by decide +kernel
theorem dX10_feeOf_40 : decode cX10_feeOf 40 = .ok (.iaload, 1) := by decide +kernel
theorem dX10_feeOf_41 : decode cX10_feeOf 41 = .ok (.goto 4, 3) := by decide +kernel
theorem dX10_feeOf_44 : decode cX10_feeOf 44 = .ok (.iconst 0, 1) := by decide +kernel
theorem dX10_feeOf_45 : decode cX10_feeOf 45 = .ok (.iadd, 1) := by decide +kernel
theorem dX10_feeOf_46 : decode cX10_feeOf 46 = .ok (.istore_n 2, 1) := by decide +kernel
theorem dX10_feeOf_47 : decode cX10_feeOf 47 = .ok (.iinc 3 1, 3) := by decide +kernel
theorem dX10_feeOf_50 : decode cX10_feeOf 50 = .ok (.goto (-39), 3) := by decide +kernel
theorem dX10_feeOf_53 : decode cX10_feeOf 53 = .ok (.iload_n 2, 1) := by decide +kernel
theorem dX10_feeOf_54 : decode cX10_feeOf 54 = .ok (.ireturn, 1) := by decide +kernel
theorem dX10_fareOf_0 : decode cX10_fareOf 0 = .ok (.iconst 0, 1) := by decide +kernel
theorem dX10_fareOf_1 : decode cX10_fareOf 1 = .ok (.istore_n 2, 1) := by decide +kernel
theorem dX10_fareOf_2 : decode cX10_fareOf 2 = .ok (.iload_n 2, 1) := by decide +kernel
theorem dX10_fareOf_3 : decode cX10_fareOf 3 = .ok (.aload_n 0, 1) := by decide +kernel
theorem dX10_fareOf_4 : decode cX10_fareOf 4 = .ok (.invokevirtual 80, 3) := by decide +kernel
theorem dX10_fareOf_7 : decode cX10_fareOf 7 = .ok (.if_icmp .ge 35, 3) := by decide +kernel
theorem dX10_fareOf_10 : decode cX10_fareOf 10 = .ok (.aload_n 0, 1) := by decide +kernel
theorem dX10_fareOf_11 : decode cX10_fareOf 11 = .ok (.getfield 66, 3) := by decide +kernel
theorem dX10_fareOf_14 : decode cX10_fareOf 14 = .ok (.iload_n 2, 1) := by decide +kernel
theorem dX10_fareOf_15 : decode cX10_fareOf 15 = .ok (.iload_n 2, 1) := by decide +kernel
theorem dX10_fareOf_16 : decode cX10_fareOf 16 = .ok (.aload_n 0, 1) := by decide +kernel
theorem dX10_fareOf_17 : decode cX10_fareOf 17 = .ok (.invokevirtual 109, 3) := by decide +kernel
theorem dX10_fareOf_20 : decode cX10_fareOf 20 = .ok (.if_icmp .ne 14, 3) := by decide +kernel
theorem dX10_fareOf_23 : decode cX10_fareOf 23 = .ok (.aload_n 0, 1) := by decide +kernel
theorem dX10_fareOf_24 : decode cX10_fareOf 24 = .ok (.getfield 13, 3) := by decide +kernel
theorem dX10_fareOf_27 : decode cX10_fareOf 27 = .ok (.iconst 4, 1) := by decide +kernel
theorem dX10_fareOf_28 : decode cX10_fareOf 28 = .ok (.iload_n 2, 1) := by decide +kernel
theorem dX10_fareOf_29 : decode cX10_fareOf 29 = .ok (.iadd, 1) := by decide +kernel
theorem dX10_fareOf_30 : decode cX10_fareOf 30 = .ok (.iaload, 1) := by decide +kernel
theorem dX10_fareOf_31 : decode cX10_fareOf 31 = .ok (.goto 4, 3) := by decide +kernel
theorem dX10_fareOf_34 : decode cX10_fareOf 34 = .ok (.iconst (-1), 1) := by decide +kernel
theorem dX10_fareOf_35 : decode cX10_fareOf 35 = .ok (.iastore, 1) := by decide +kernel
theorem dX10_fareOf_36 : decode cX10_fareOf 36 = .ok (.iinc 2 1, 3) := by decide +kernel
theorem dX10_fareOf_39 : decode cX10_fareOf 39 = .ok (.goto (-37), 3) := by decide +kernel
theorem dX10_fareOf_42 : decode cX10_fareOf 42 = .ok (.iconst 1, 1) := by decide +kernel
theorem dX10_fareOf_43 : decode cX10_fareOf 43 = .ok (.istore_n 2, 1) := by decide +kernel
theorem dX10_fareOf_44 : decode cX10_fareOf 44 = .ok (.iload_n 2, 1) := by decide +kernel
theorem dX10_fareOf_45 : decode cX10_fareOf 45 = .ok (.ifCond .eq 120, 3) := by decide +kernel
theorem dX10_fareOf_48 : decode cX10_fareOf 48 = .ok (.iconst 0, 1) := by decide +kernel
theorem dX10_fareOf_49 : decode cX10_fareOf 49 = .ok (.istore_n 2, 1) := by decide +kernel
theorem dX10_fareOf_50 : decode cX10_fareOf 50 = .ok (.iconst 0, 1) := by decide +kernel
theorem dX10_fareOf_51 : decode cX10_fareOf 51 = .ok (.istore_n 3, 1) := by decide +kernel
theorem dX10_fareOf_52 : decode cX10_fareOf 52 = .ok (.iload_n 3, 1) := by decide +kernel
theorem dX10_fareOf_53 : decode cX10_fareOf 53 = .ok (.aload_n 0, 1) := by decide +kernel
theorem dX10_fareOf_54 : decode cX10_fareOf 54 = .ok (.invokevirtual 88, 3) := by decide +kernel
theorem dX10_fareOf_57 : decode cX10_fareOf 57 = .ok (.if_icmp .ge 105, 3) := by decide +kernel
theorem dX10_fareOf_60 : decode cX10_fareOf 60 = .ok (.aload_n 0, 1) := by decide +kernel
theorem dX10_fareOf_61 : decode cX10_fareOf 61 = .ok (.iload_n 3, 1) := by decide +kernel
theorem dX10_fareOf_62 : decode cX10_fareOf 62 = .ok (.invokevirtual 91, 3) := by decide +kernel
theorem dX10_fareOf_65 : decode cX10_fareOf 65 = .ok (.ifCond .eq 91, 3) := by decide +kernel
theorem dX10_fareOf_68 : decode cX10_fareOf 68 = .ok (.aload_n 0, 1) := by decide +kernel
theorem dX10_fareOf_69 : decode cX10_fareOf 69 = .ok (.getfield 66, 3) := by decide +kernel
theorem dX10_fareOf_72 : decode cX10_fareOf 72 = .ok (.aload_n 0, 1) := by decide +kernel
theorem dX10_fareOf_73 : decode cX10_fareOf 73 = .ok (.iload_n 3, 1) := by decide +kernel
theorem dX10_fareOf_74 : decode cX10_fareOf 74 = .ok (.invokevirtual 95, 3) := by decide +kernel
theorem dX10_fareOf_77 : decode cX10_fareOf 77 = .ok (.iaload, 1) := by decide +kernel
theorem dX10_fareOf_78 : decode cX10_fareOf 78 = .ok (.iconst (-1), 1) := by decide +kernel
theorem dX10_fareOf_79 : decode cX10_fareOf 79 = .ok (.if_icmp .ne 6, 3) := by decide +kernel
theorem dX10_fareOf_82 : decode cX10_fareOf 82 = .ok (.goto 74, 3) := by decide +kernel
theorem dX10_fareOf_85 : decode cX10_fareOf 85 = .ok (.aload_n 0, 1) := by decide +kernel
theorem dX10_fareOf_86 : decode cX10_fareOf 86 = .ok (.getfield 66, 3) := by decide +kernel
theorem dX10_fareOf_89 : decode cX10_fareOf 89 = .ok (.aload_n 0, 1) := by decide +kernel
theorem dX10_fareOf_90 : decode cX10_fareOf 90 = .ok (.iload_n 3, 1) := by decide +kernel
theorem dX10_fareOf_91 : decode cX10_fareOf 91 = .ok (.invokevirtual 95, 3) := by decide +kernel
theorem dX10_fareOf_94 : decode cX10_fareOf 94 = .ok (.iaload, 1) := by decide +kernel
theorem dX10_fareOf_95 : decode cX10_fareOf 95 = .ok (.aload_n 0, 1) := by decide +kernel
theorem dX10_fareOf_96 : decode cX10_fareOf 96 = .ok (.getfield 13, 3) := by decide +kernel
theorem dX10_fareOf_99 : decode cX10_fareOf 99 = .ok (.iconst 4, 1) := by decide +kernel
theorem dX10_fareOf_100 : decode cX10_fareOf 100 = .ok (.aload_n 0, 1) := by decide +kernel
theorem dX10_fareOf_101 : decode cX10_fareOf 101 = .ok (.iload_n 3, 1) := by decide +kernel
theorem dX10_fareOf_102 : decode cX10_fareOf 102 = .ok (.invokevirtual 103, 3) := by decide +kernel
theorem dX10_fareOf_105 : decode cX10_fareOf 105 = .ok (.iadd, 1) := by decide +kernel
theorem dX10_fareOf_106 : decode cX10_fareOf 106 = .ok (.iaload, 1) := by decide +kernel
theorem dX10_fareOf_107 : decode cX10_fareOf 107 = .ok (.iadd, 1) := by decide +kernel
theorem dX10_fareOf_108 : decode cX10_fareOf 108 = .ok (.istore 4, 2) := by decide +kernel
theorem dX10_fareOf_110 : decode cX10_fareOf 110 = .ok (.aload_n 0, 1) := by decide +kernel
theorem dX10_fareOf_111 : decode cX10_fareOf 111 = .ok (.getfield 66, 3) := by decide +kernel
theorem dX10_fareOf_114 : decode cX10_fareOf 114 = .ok (.aload_n 0, 1) := by decide +kernel
theorem dX10_fareOf_115 : decode cX10_fareOf 115 = .ok (.iload_n 3, 1) := by decide +kernel
theorem dX10_fareOf_116 : decode cX10_fareOf 116 = .ok (.invokevirtual 103, 3) := by decide +kernel
theorem dX10_fareOf_119 : decode cX10_fareOf 119 = .ok (.iaload, 1) := by decide +kernel
theorem dX10_fareOf_120 : decode cX10_fareOf 120 = .ok (.iconst (-1), 1) := by decide +kernel
theorem dX10_fareOf_121 : decode cX10_fareOf 121 = .ok (.if_icmp .eq 21, 3) := by decide +kernel
theorem dX10_fareOf_124 : decode cX10_fareOf 124 = .ok (.aload_n 0, 1) := by decide +kernel
theorem dX10_fareOf_125 : decode cX10_fareOf 125 = .ok (.getfield 66, 3) := by decide +kernel
theorem dX10_fareOf_128 : decode cX10_fareOf 128 = .ok (.aload_n 0, 1) := by decide +kernel
theorem dX10_fareOf_129 : decode cX10_fareOf 129 = .ok (.iload_n 3, 1) := by decide +kernel
theorem dX10_fareOf_130 : decode cX10_fareOf 130 = .ok (.invokevirtual 103, 3) := by decide +kernel
theorem dX10_fareOf_133 : decode cX10_fareOf 133 = .ok (.iaload, 1) := by decide +kernel
theorem dX10_fareOf_134 : decode cX10_fareOf 134 = .ok (.iload 4, 2) := by decide +kernel
theorem dX10_fareOf_136 : decode cX10_fareOf 136 = .ok (.if_icmp .gt 6, 3) := by decide +kernel
theorem dX10_fareOf_139 : decode cX10_fareOf 139 = .ok (.goto 17, 3) := by decide +kernel
theorem dX10_fareOf_142 : decode cX10_fareOf 142 = .ok (.aload_n 0, 1) := by decide +kernel
theorem dX10_fareOf_143 : decode cX10_fareOf 143 = .ok (.getfield 66, 3) := by decide +kernel
theorem dX10_fareOf_146 : decode cX10_fareOf 146 = .ok (.aload_n 0, 1) := by decide +kernel
theorem dX10_fareOf_147 : decode cX10_fareOf 147 = .ok (.iload_n 3, 1) := by decide +kernel
theorem dX10_fareOf_148 : decode cX10_fareOf 148 = .ok (.invokevirtual 103, 3) := by decide +kernel
theorem dX10_fareOf_151 : decode cX10_fareOf 151 = .ok (.iload 4, 2) := by decide +kernel
theorem dX10_fareOf_153 : decode cX10_fareOf 153 = .ok (.iastore, 1) := by decide +kernel
theorem dX10_fareOf_154 : decode cX10_fareOf 154 = .ok (.iconst 1, 1) := by decide +kernel
theorem dX10_fareOf_155 : decode cX10_fareOf 155 = .ok (.istore_n 2, 1) := by decide +kernel
theorem dX10_fareOf_156 : decode cX10_fareOf 156 = .ok (.iinc 3 1, 3) := by decide +kernel
theorem dX10_fareOf_159 : decode cX10_fareOf 159 = .ok (.goto (-107), 3) := by decide +kernel
theorem dX10_fareOf_162 : decode cX10_fareOf 162 = .ok (.goto (-118), 3) := by decide +kernel
theorem dX10_fareOf_165 : decode cX10_fareOf 165 = .ok (.aload_n 0, 1) := by decide +kernel
theorem dX10_fareOf_166 : decode cX10_fareOf 166 = .ok (.getfield 66, 3) := by decide +kernel
theorem dX10_fareOf_169 : decode cX10_fareOf 169 = .ok (.iload_n 1, 1) := by decide +kernel
theorem dX10_fareOf_170 : decode cX10_fareOf 170 = .ok (.iaload, 1) := by decide +kernel
theorem dX10_fareOf_171 : decode cX10_fareOf 171 = .ok (.ireturn, 1) := by decide +kernel
theorem dX10_controls_0 : decode cX10_controls 0 = .ok (.aload_n 0, 1) := by decide +kernel
theorem dX10_controls_1 : decode cX10_controls 1 = .ok (.iload_n 1, 1) := by decide +kernel
theorem dX10_controls_2 : decode cX10_controls 2 = .ok (.invokevirtual 291, 3) := by decide +kernel
theorem dX10_controls_5 : decode cX10_controls 5 = .ok (.ifCond .ne 5, 3) := by decide +kernel
theorem dX10_controls_8 : decode cX10_controls 8 = .ok (.iconst 0, 1) := by decide +kernel
theorem dX10_controls_9 : decode cX10_controls 9 = .ok (.ireturn, 1) := by decide +kernel
theorem dX10_controls_10 : decode cX10_controls 10 = .ok (.iconst 0, 1) := by decide +kernel
theorem dX10_controls_11 : decode cX10_controls 11 = .ok (.istore_n 2, 1) := by decide +kernel
theorem dX10_controls_12 : decode cX10_controls 12 = .ok (.iconst 0, 1) := by decide +kernel
theorem dX10_controls_13 : decode cX10_controls 13 = .ok (.istore_n 3, 1) := by decide +kernel
theorem dX10_controls_14 : decode cX10_controls 14 = .ok (.iload_n 3, 1) := by decide +kernel
theorem dX10_controls_15 : decode cX10_controls 15 = .ok (.aload_n 0, 1) := by decide +kernel
theorem dX10_controls_16 : decode cX10_controls 16 = .ok (.invokevirtual 88, 3) := by decide +kernel
theorem dX10_controls_19 : decode cX10_controls 19 = .ok (.if_icmp .ge 58, 3) := by decide +kernel
theorem dX10_controls_22 : decode cX10_controls 22 = .ok (.aload_n 0, 1) := by decide +kernel
theorem dX10_controls_23 : decode cX10_controls 23 = .ok (.iload_n 3, 1) := by decide +kernel
theorem dX10_controls_24 : decode cX10_controls 24 = .ok (.invokevirtual 91, 3) := by decide +kernel
theorem dX10_controls_27 : decode cX10_controls 27 = .ok (.ifCond .eq 44, 3) := by decide +kernel
theorem dX10_controls_30 : decode cX10_controls 30 = .ok (.aload_n 0, 1) := by decide +kernel
theorem dX10_controls_31 : decode cX10_controls 31 = .ok (.iload_n 3, 1) := by decide +kernel
theorem dX10_controls_32 : decode cX10_controls 32 = .ok (.invokevirtual 95, 3) := by decide +kernel
theorem dX10_controls_35 : decode cX10_controls 35 = .ok (.iload_n 1, 1) := by decide +kernel
theorem dX10_controls_36 : decode cX10_controls 36 = .ok (.if_icmp .ne 35, 3) := by decide +kernel
theorem dX10_controls_39 : decode cX10_controls 39 = .ok (.aload_n 0, 1) := by decide +kernel
theorem dX10_controls_40 : decode cX10_controls 40 = .ok (.aload_n 0, 1) := by decide +kernel
theorem dX10_controls_41 : decode cX10_controls 41 = .ok (.iload_n 3, 1) := by decide +kernel
theorem dX10_controls_42 : decode cX10_controls 42 = .ok (.invokevirtual 103, 3) := by decide +kernel
theorem dX10_controls_45 : decode cX10_controls 45 = .ok (.invokevirtual 291, 3) := by decide +kernel
theorem dX10_controls_48 : decode cX10_controls 48 = .ok (.ifCond .eq 23, 3) := by decide +kernel
theorem dX10_controls_51 : decode cX10_controls 51 = .ok (.iload_n 2, 1) := by decide +kernel
theorem dX10_controls_52 : decode cX10_controls 52 = .ok (.iconst 1, 1) := by decide +kernel
theorem dX10_controls_53 : decode cX10_controls 53 = .ok (.aload_n 0, 1) := by decide +kernel
theorem dX10_controls_54 : decode cX10_controls 54 = .ok (.iload_n 3, 1) := by decide +kernel
theorem dX10_controls_55 : decode cX10_controls 55 = .ok (.invokevirtual 103, 3) := by decide +kernel
theorem dX10_controls_58 : decode cX10_controls 58 = .ok (.ishl, 1) := by decide +kernel
theorem dX10_controls_59 : decode cX10_controls 59 = .ok (.aload_n 0, 1) := by decide +kernel
theorem dX10_controls_60 : decode cX10_controls 60 = .ok (.aload_n 0, 1) := by decide +kernel
theorem dX10_controls_61 : decode cX10_controls 61 = .ok (.iload_n 3, 1) := by decide +kernel
theorem dX10_controls_62 : decode cX10_controls 62 = .ok (.invokevirtual 103, 3) := by decide +kernel
theorem dX10_controls_65 : decode cX10_controls 65 = .ok (.invokevirtual 294, 3) := by decide +kernel
theorem dX10_controls_68 : decode cX10_controls 68 = .ok (.ior, 1) := by decide +kernel
theorem dX10_controls_69 : decode cX10_controls 69 = .ok (.ior, 1) := by decide +kernel
theorem dX10_controls_70 : decode cX10_controls 70 = .ok (.istore_n 2, 1) := by decide +kernel
theorem dX10_controls_71 : decode cX10_controls 71 = .ok (.iinc 3 1, 3) := by decide +kernel
theorem dX10_controls_74 : decode cX10_controls 74 = .ok (.goto (-60), 3) := by decide +kernel
theorem dX10_controls_77 : decode cX10_controls 77 = .ok (.iload_n 2, 1) := by decide +kernel
theorem dX10_controls_78 : decode cX10_controls 78 = .ok (.aload_n 0, 1) := by decide +kernel
theorem dX10_controls_79 : decode cX10_controls 79 = .ok (.iload_n 1, 1) := by decide +kernel
theorem dX10_controls_80 : decode cX10_controls 80 = .ok (.invokevirtual 294, 3) := by decide +kernel
theorem dX10_controls_83 : decode cX10_controls 83 = .ok (.iconst (-1), 1) := by decide +kernel
theorem dX10_controls_84 : decode cX10_controls 84 = .ok (.ixor, 1) := by decide +kernel
theorem dX10_controls_85 : decode cX10_controls 85 = .ok (.iand, 1) := by decide +kernel
theorem dX10_controls_86 : decode cX10_controls 86 = .ok (.ireturn, 1) := by decide +kernel
theorem dX10_ringOf_0 : decode cX10_ringOf 0 = .ok (.aload_n 0, 1) := by decide +kernel
theorem dX10_ringOf_1 : decode cX10_ringOf 1 = .ok (.getfield 120, 3) := by decide +kernel
theorem dX10_ringOf_4 : decode cX10_ringOf 4 = .ok (.iload_n 1, 1) := by decide +kernel
theorem dX10_ringOf_5 : decode cX10_ringOf 5 = .ok (.invokestatic 99, 3) := by decide +kernel
theorem dX10_ringOf_8 : decode cX10_ringOf 8 = .ok (.ifCond .eq 24, 3) := by decide +kernel
theorem dX10_ringOf_11 : decode cX10_ringOf 11 = .ok (.aload_n 0, 1) := by decide +kernel
theorem dX10_ringOf_12 : decode cX10_ringOf 12 = .ok (.iconst 1, 1) := by decide +kernel
theorem dX10_ringOf_13 : decode cX10_ringOf 13 = .ok (.iload_n 1, 1) := by decide +kernel
theorem dX10_ringOf_14 : decode cX10_ringOf 14 = .ok (.ishl, 1) := by decide +kernel
theorem dX10_ringOf_15 : decode cX10_ringOf 15 = .ok (.iconst 0, 1) := by decide +kernel
theorem dX10_ringOf_16 : decode cX10_ringOf 16 = .ok (.iconst (-1), 1) := by decide +kernel
theorem dX10_ringOf_17 : decode cX10_ringOf 17 = .ok (.invokevirtual 112, 3) := by decide +kernel
theorem dX10_ringOf_20 : decode cX10_ringOf 20 = .ok (.aload_n 0, 1) := by decide +kernel
theorem dX10_ringOf_21 : decode cX10_ringOf 21 = .ok (.iconst 1, 1) := by decide +kernel
theorem dX10_ringOf_22 : decode cX10_ringOf 22 = .ok (.iload_n 1, 1) := by decide +kernel
theorem dX10_ringOf_23 : decode cX10_ringOf 23 = .ok (.ishl, 1) := by decide +kernel
theorem dX10_ringOf_24 : decode cX10_ringOf 24 = .ok (.iconst 0, 1) := by decide +kernel
theorem dX10_ringOf_25 : decode cX10_ringOf 25 = .ok (.invokevirtual 285, 3) := by decide +kernel
theorem dX10_ringOf_28 : decode cX10_ringOf 28 = .ok (.iand, 1) := by decide +kernel
theorem dX10_ringOf_29 : decode cX10_ringOf 29 = .ok (.goto 4, 3) := by decide +kernel
theorem dX10_ringOf_32 : decode cX10_ringOf 32 = .ok (.iconst 0, 1) := by decide +kernel
theorem dX10_ringOf_33 : decode cX10_ringOf 33 = .ok (.ireturn, 1) := by decide +kernel
theorem dX10_ownOf_0 : decode cX10_ownOf 0 = .ok (.iconst 0, 1) := by decide +kernel
theorem dX10_ownOf_1 : decode cX10_ownOf 1 = .ok (.istore_n 2, 1) := by decide +kernel
theorem dX10_ownOf_2 : decode cX10_ownOf 2 = .ok (.iconst 0, 1) := by decide +kernel
theorem dX10_ownOf_3 : decode cX10_ownOf 3 = .ok (.istore_n 3, 1) := by decide +kernel
theorem dX10_ownOf_4 : decode cX10_ownOf 4 = .ok (.iload_n 3, 1) := by decide +kernel
theorem dX10_ownOf_5 : decode cX10_ownOf 5 = .ok (.aload_n 0, 1) := by decide +kernel
theorem dX10_ownOf_6 : decode cX10_ownOf 6 = .ok (.invokevirtual 80, 3) := by decide +kernel
theorem dX10_ownOf_9 : decode cX10_ownOf 9 = .ok (.if_icmp .ge 29, 3) := by decide +kernel
theorem dX10_ownOf_12 : decode cX10_ownOf 12 = .ok (.iload_n 2, 1) := by decide +kernel
theorem dX10_ownOf_13 : decode cX10_ownOf 13 = .ok (.aload_n 0, 1) := by decide +kernel
theorem dX10_ownOf_14 : decode cX10_ownOf 14 = .ok (.getfield 38, 3) := by decide +kernel
theorem dX10_ownOf_17 : decode cX10_ownOf 17 = .ok (.iload_n 3, 1) := by decide +kernel
theorem dX10_ownOf_18 : decode cX10_ownOf 18 = .ok (.iaload, 1) := by decide +kernel
theorem dX10_ownOf_19 : decode cX10_ownOf 19 = .ok (.iload_n 1, 1) := by decide +kernel
theorem dX10_ownOf_20 : decode cX10_ownOf 20 = .ok (.if_icmp .ne 9, 3) := by decide +kernel
theorem dX10_ownOf_23 : decode cX10_ownOf 23 = .ok (.iconst 1, 1) := by decide +kernel
theorem dX10_ownOf_24 : decode cX10_ownOf 24 = .ok (.iload_n 3, 1) := by decide +kernel
theorem dX10_ownOf_25 : decode cX10_ownOf 25 = .ok (.ishl, 1) := by decide +kernel
theorem dX10_ownOf_26 : decode cX10_ownOf 26 = .ok (.goto 4, 3) := by decide +kernel
theorem dX10_ownOf_29 : decode cX10_ownOf 29 = .ok (.iconst 0, 1) := by decide +kernel
theorem dX10_ownOf_30 : decode cX10_ownOf 30 = .ok (.ior, 1) := by decide +kernel
theorem dX10_ownOf_31 : decode cX10_ownOf 31 = .ok (.istore_n 2, 1) := by decide +kernel
theorem dX10_ownOf_32 : decode cX10_ownOf 32 = .ok (.iinc 3 1, 3) := by decide +kernel
theorem dX10_ownOf_35 : decode cX10_ownOf 35 = .ok (.goto (-31), 3) := by decide +kernel
theorem dX10_ownOf_38 : decode cX10_ownOf 38 = .ok (.iload_n 2, 1) := by decide +kernel
theorem dX10_ownOf_39 : decode cX10_ownOf 39 = .ok (.ireturn, 1) := by decide +kernel
theorem dX10_innerOf_0 : decode cX10_innerOf 0 = .ok (.iconst (-1), 1) := by decide +kernel
theorem dX10_innerOf_1 : decode cX10_innerOf 1 = .ok (.istore_n 3, 1) := by decide +kernel
theorem dX10_innerOf_2 : decode cX10_innerOf 2 = .ok (.bipush 17, 2) := by decide +kernel
theorem dX10_innerOf_4 : decode cX10_innerOf 4 = .ok (.istore 4, 2) := by decide +kernel
theorem dX10_innerOf_6 : decode cX10_innerOf 6 = .ok (.iload_n 2, 1) := by decide +kernel
theorem dX10_innerOf_7 : decode cX10_innerOf 7 = .ok (.ifCond .ne 7, 3) := by decide +kernel
theorem dX10_innerOf_10 : decode cX10_innerOf 10 = .ok (.iconst 0, 1) := by decide +kernel
theorem dX10_innerOf_11 : decode cX10_innerOf 11 = .ok (.goto 31, 3) := by decide +kernel
theorem dX10_innerOf_14 : decode cX10_innerOf 14 = .ok (.aload_n 0, 1) := by decide +kernel
theorem dX10_innerOf_15 : decode cX10_innerOf 15 = .ok (.iload_n 1, 1) := by decide +kernel
theorem dX10_innerOf_16 : decode cX10_innerOf 16 = .ok (.iconst 0, 1) := by decide +kernel
theorem dX10_innerOf_17 : decode cX10_innerOf 17 = .ok (.invokevirtual 300, 3) := by decide +kernel
theorem dX10_innerOf_20 : decode cX10_innerOf 20 = .ok (.iconst (-1), 1) := by decide +kernel
theorem dX10_innerOf_21 : decode cX10_innerOf 21 = .ok (.if_icmp .ne 8, 3) := by decide +kernel
theorem dX10_innerOf_24 : decode cX10_innerOf 24 = .ok (.bipush 16, 2) := by decide +kernel
theorem dX10_innerOf_26 : decode cX10_innerOf 26 = .ok (.goto 16, 3) := by decide +kernel
theorem dX10_innerOf_29 : decode cX10_innerOf 29 = .ok (.aload_n 0, 1) := by decide +kernel
theorem dX10_innerOf_30 : decode cX10_innerOf 30 = .ok (.aload_n 0, 1) := by decide +kernel
theorem dX10_innerOf_31 : decode cX10_innerOf 31 = .ok (.iload_n 1, 1) := by decide +kernel
theorem dX10_innerOf_32 : decode cX10_innerOf 32 = .ok (.iconst 0, 1) := by decide +kernel
theorem dX10_innerOf_33 : decode cX10_innerOf 33 = .ok (.invokevirtual 300, 3) := by decide +kernel
theorem dX10_innerOf_36 : decode cX10_innerOf 36 = .ok (.invokevirtual 288, 3) := by decide +kernel
theorem dX10_innerOf_39 : decode cX10_innerOf 39 = .ok (.invokestatic 123, 3) := by decide +kernel
theorem dX10_innerOf_42 : decode cX10_innerOf 42 = .ok (.istore 5, 2) := by decide +kernel
theorem dX10_innerOf_44 : decode cX10_innerOf 44 = .ok (.iconst 0, 1) := by decide +kernel
theorem dX10_innerOf_45 : decode cX10_innerOf 45 = .ok (.istore 6, 2) := by decide +kernel
theorem dX10_innerOf_47 : decode cX10_innerOf 47 = .ok (.iload 6, 2) := by decide +kernel
theorem dX10_innerOf_49 : decode cX10_innerOf 49 = .ok (.aload_n 0, 1) := by decide +kernel
theorem dX10_innerOf_50 : decode cX10_innerOf 50 = .ok (.invokevirtual 80, 3) := by decide +kernel
theorem dX10_innerOf_53 : decode cX10_innerOf 53 = .ok (.if_icmp .ge 59, 3) := by decide +kernel
theorem dX10_innerOf_56 : decode cX10_innerOf 56 = .ok (.aload_n 0, 1) := by decide +kernel
theorem dX10_innerOf_57 : decode cX10_innerOf 57 = .ok (.iload 6, 2) := by decide +kernel
theorem dX10_innerOf_59 : decode cX10_innerOf 59 = .ok (.invokevirtual 288, 3) := by decide +kernel
theorem dX10_innerOf_62 : decode cX10_innerOf 62 = .ok (.istore 7, 2) := by decide +kernel
theorem dX10_innerOf_64 : decode cX10_innerOf 64 = .ok (.iload 7, 2) := by decide +kernel
theorem dX10_innerOf_66 : decode cX10_innerOf 66 = .ok (.iload_n 1, 1) := by decide +kernel
theorem dX10_innerOf_67 : decode cX10_innerOf 67 = .ok (.invokestatic 99, 3) := by decide +kernel
theorem dX10_innerOf_70 : decode cX10_innerOf 70 = .ok (.ifCond .eq 36, 3) := by decide +kernel
theorem dX10_innerOf_73 : decode cX10_innerOf 73 = .ok (.iload 7, 2) := by decide +kernel
theorem dX10_innerOf_75 : decode cX10_innerOf 75 = .ok (.invokestatic 123, 3) := by decide +kernel
theorem dX10_innerOf_78 : decode cX10_innerOf 78 = .ok (.iload 5, 2) := by decide +kernel
theorem dX10_innerOf_80 : decode cX10_innerOf 80 = .ok (.if_icmp .le 26, 3) := by decide +kernel
theorem dX10_innerOf_83 : decode cX10_innerOf 83 = .ok (.iload 7, 2) := by decide +kernel
theorem dX10_innerOf_85 : decode cX10_innerOf 85 = .ok (.invokestatic 123, 3) := by decide +kernel
theorem dX10_innerOf_88 : decode cX10_innerOf 88 = .ok (.iload 4, 2) := by decide +kernel
theorem dX10_innerOf_90 : decode cX10_innerOf 90 = .ok (.if_icmp .lt 6, 3) := by decide +kernel
theorem dX10_innerOf_93 : decode cX10_innerOf 93 = .ok (.goto 13, 3) := by decide +kernel
theorem dX10_innerOf_96 : decode cX10_innerOf 96 = .ok (.iload 6, 2) := by decide +kernel
theorem dX10_innerOf_98 : decode cX10_innerOf 98 = .ok (.istore_n 3, 1) := by decide +kernel
theorem dX10_innerOf_99 : decode cX10_innerOf 99 = .ok (.iload 7, 2) := by decide +kernel
theorem dX10_innerOf_101 : decode cX10_innerOf 101 = .ok (.invokestatic 123, 3) := by decide +kernel
theorem dX10_innerOf_104 : decode cX10_innerOf 104 = .ok (.istore 4, 2) := by decide +kernel
theorem dX10_innerOf_106 : decode cX10_innerOf 106 = .ok (.iinc 6 1, 3) := by decide +kernel
theorem dX10_innerOf_109 : decode cX10_innerOf 109 = .ok (.goto (-62), 3) := by decide +kernel
theorem dX10_innerOf_112 : decode cX10_innerOf 112 = .ok (.iload_n 3, 1) := by decide +kernel
theorem dX10_innerOf_113 : decode cX10_innerOf 113 = .ok (.ireturn, 1) := by decide +kernel
theorem dX10_tiedTo_0 : decode cX10_tiedTo 0 = .ok (.aload_n 0, 1) := by decide +kernel
theorem dX10_tiedTo_1 : decode cX10_tiedTo 1 = .ok (.getfield 120, 3) := by decide +kernel
theorem dX10_tiedTo_4 : decode cX10_tiedTo 4 = .ok (.iload_n 1, 1) := by decide +kernel
theorem dX10_tiedTo_5 : decode cX10_tiedTo 5 = .ok (.invokestatic 99, 3) := by decide +kernel
theorem dX10_tiedTo_8 : decode cX10_tiedTo 8 = .ok (.ifCond .ne 5, 3) := by decide +kernel
theorem dX10_tiedTo_11 : decode cX10_tiedTo 11 = .ok (.iconst 0, 1) := by decide +kernel
theorem dX10_tiedTo_12 : decode cX10_tiedTo 12 = .ok (.ireturn, 1) := by decide +kernel
theorem dX10_tiedTo_13 : decode cX10_tiedTo 13 = .ok (.aload_n 0, 1) := by decide +kernel
theorem dX10_tiedTo_14 : decode cX10_tiedTo 14 = .ok (.getfield 120, 3) := by decide +kernel
theorem dX10_tiedTo_17 : decode cX10_tiedTo 17 = .ok (.istore_n 2, 1) := by decide +kernel
theorem dX10_tiedTo_18 : decode cX10_tiedTo 18 = .ok (.iconst 0, 1) := by decide +kernel
theorem dX10_tiedTo_19 : decode cX10_tiedTo 19 = .ok (.istore_n 3, 1) := by decide +kernel
theorem dX10_tiedTo_20 : decode cX10_tiedTo 20 = .ok (.iload_n 3, 1) := by decide +kernel
theorem dX10_tiedTo_21 : decode cX10_tiedTo 21 = .ok (.aload_n 0, 1) := by decide +kernel
theorem dX10_tiedTo_22 : decode cX10_tiedTo 22 = .ok (.invokevirtual 88, 3) := by decide +kernel
theorem dX10_tiedTo_25 : decode cX10_tiedTo 25 = .ok (.if_icmp .ge 53, 3) := by decide +kernel
theorem dX10_tiedTo_28 : decode cX10_tiedTo 28 = .ok (.aload_n 0, 1) := by decide +kernel
theorem dX10_tiedTo_29 : decode cX10_tiedTo 29 = .ok (.iload_n 3, 1) := by decide +kernel
theorem dX10_tiedTo_30 : decode cX10_tiedTo 30 = .ok (.invokevirtual 91, 3) := by decide +kernel
theorem dX10_tiedTo_33 : decode cX10_tiedTo 33 = .ok (.ifCond .eq 12, 3) := by decide +kernel
theorem dX10_tiedTo_36 : decode cX10_tiedTo 36 = .ok (.aload_n 0, 1) := by decide +kernel
theorem dX10_tiedTo_37 : decode cX10_tiedTo 37 = .ok (.iconst 0, 1) := by decide +kernel
theorem dX10_tiedTo_38 : decode cX10_tiedTo 38 = .ok (.iload_n 3, 1) := by decide +kernel
theorem dX10_tiedTo_39 : decode cX10_tiedTo 39 = .ok (.invokevirtual 116, 3) := by decide +kernel
theorem dX10_tiedTo_42 : decode cX10_tiedTo 42 = .ok (.goto 7, 3) := by decide +kernel
theorem dX10_tiedTo_45 : decode cX10_tiedTo 45 = .ok (.aload_n 0, 1) := by decide +kernel
theorem dX10_tiedTo_46 : decode cX10_tiedTo 46 = .ok (.getfield 120, 3) := by decide +kernel
theorem dX10_tiedTo_49 : decode cX10_tiedTo 49 = .ok (.istore 4, 2) := by decide +kernel
theorem dX10_tiedTo_51 : decode cX10_tiedTo 51 = .ok (.iload_n 2, 1) := by decide +kernel
theorem dX10_tiedTo_52 : decode cX10_tiedTo 52 = .ok (.iload 4, 2) := by decide +kernel
theorem dX10_tiedTo_54 : decode cX10_tiedTo 54 = .ok (.iload_n 1, 1) := by decide +kernel
theorem dX10_tiedTo_55 : decode cX10_tiedTo 55 = .ok (.invokestatic 99, 3) := by decide +kernel
theorem dX10_tiedTo_58 : decode cX10_tiedTo 58 = .ok (.ifCond .eq 8, 3) := by decide +kernel
theorem dX10_tiedTo_61 : decode cX10_tiedTo 61 = .ok (.iload 4, 2) := by decide +kernel
theorem dX10_tiedTo_63 : decode cX10_tiedTo 63 = .ok (.goto 7, 3) := by decide +kernel
theorem dX10_tiedTo_66 : decode cX10_tiedTo 66 = .ok (.iload 4, 2) := by decide +kernel
theorem dX10_tiedTo_68 : decode cX10_tiedTo 68 = .ok (.iconst (-1), 1) := by decide +kernel
theorem dX10_tiedTo_69 : decode cX10_tiedTo 69 = .ok (.ixor, 1) := by decide +kernel
theorem dX10_tiedTo_70 : decode cX10_tiedTo 70 = .ok (.iand, 1) := by decide +kernel
theorem dX10_tiedTo_71 : decode cX10_tiedTo 71 = .ok (.istore_n 2, 1) := by decide +kernel
theorem dX10_tiedTo_72 : decode cX10_tiedTo 72 = .ok (.iinc 3 1, 3) := by decide +kernel
theorem dX10_tiedTo_75 : decode cX10_tiedTo 75 = .ok (.goto (-55), 3) := by decide +kernel
theorem dX10_tiedTo_78 : decode cX10_tiedTo 78 = .ok (.iload_n 2, 1) := by decide +kernel
theorem dX10_tiedTo_79 : decode cX10_tiedTo 79 = .ok (.ireturn, 1) := by decide +kernel
theorem dX10_laysPass_0 : decode cX10_laysPass 0 = .ok (.iconst 0, 1) := by decide +kernel
theorem dX10_laysPass_1 : decode cX10_laysPass 1 = .ok (.istore_n 2, 1) := by decide +kernel
theorem dX10_laysPass_2 : decode cX10_laysPass 2 = .ok (.iconst 0, 1) := by decide +kernel
theorem dX10_laysPass_3 : decode cX10_laysPass 3 = .ok (.istore_n 3, 1) := by decide +kernel
theorem dX10_laysPass_4 : decode cX10_laysPass 4 = .ok (.iload_n 3, 1) := by decide +kernel
theorem dX10_laysPass_5 : decode cX10_laysPass 5 = .ok (.aload_n 0, 1) := by decide +kernel
theorem dX10_laysPass_6 : decode cX10_laysPass 6 = .ok (.invokevirtual 88, 3) := by decide +kernel
theorem dX10_laysPass_9 : decode cX10_laysPass 9 = .ok (.if_icmp .ge 69, 3) := by decide +kernel
theorem dX10_laysPass_12 : decode cX10_laysPass 12 = .ok (.aload_n 0, 1) := by decide +kernel
theorem dX10_laysPass_13 : decode cX10_laysPass 13 = .ok (.getfield 69, 3) := by decide +kernel
theorem dX10_laysPass_16 : decode cX10_laysPass 16 = .ok (.iload_n 3, 1) := by decide +kernel
theorem dX10_laysPass_17 : decode cX10_laysPass 17 = .ok (.aload_n 0, 1) := by decide +kernel
theorem dX10_laysPass_18 : decode cX10_laysPass 18 = .ok (.iload_n 3, 1) := by decide +kernel
theorem dX10_laysPass_19 : decode cX10_laysPass 19 = .ok (.invokevirtual 91, 3) := by decide +kernel
theorem dX10_laysPass_22 : decode cX10_laysPass 22 = .ok (.ifCond .eq 31, 3) := by decide +kernel
theorem dX10_laysPass_25 : decode cX10_laysPass 25 = .ok (.aload_n 0, 1) := by decide +kernel
theorem dX10_laysPass_26 : decode cX10_laysPass 26 = .ok (.getfield 120, 3) := by decide +kernel
theorem dX10_laysPass_29 : decode cX10_laysPass 29 = .ok (.iload_n 1, 1) := by decide +kernel
theorem dX10_laysPass_30 : decode cX10_laysPass 30 = .ok (.invokestatic 99, 3) := by decide +kernel
theorem dX10_laysPass_33 : decode cX10_laysPass 33 = .ok (.ifCond .eq 20, 3) := by decide +kernel
theorem dX10_laysPass_36 : decode cX10_laysPass 36 = .ok (.aload_n 0, 1) := by decide +kernel
theorem dX10_laysPass_37 : decode cX10_laysPass 37 = .ok (.iconst 0, 1) := by decide +kernel
theorem dX10_laysPass_38 : decode cX10_laysPass 38 = .ok (.iload_n 3, 1) := by decide +kernel
theorem dX10_laysPass_39 : decode cX10_laysPass 39 = .ok (.invokevirtual 116, 3) := by decide +kernel
theorem dX10_laysPass_42 : decode cX10_laysPass 42 = .ok (.iload_n 1, 1) := by decide +kernel
theorem dX10_laysPass_43 : decode cX10_laysPass 43 = .ok (.invokestatic 99, 3) := by decide +kernel
theorem dX10_laysPass_46 : decode cX10_laysPass 46 = .ok (.ifCond .ne 7, 3) := by decide +kernel
theorem dX10_laysPass_49 : decode cX10_laysPass 49 = .ok (.iconst 1, 1) := by decide +kernel
theorem dX10_laysPass_50 : decode cX10_laysPass 50 = .ok (.goto 4, 3) := by decide +kernel
theorem dX10_laysPass_53 : decode cX10_laysPass 53 = .ok (.iconst 0, 1) := by decide +kernel
theorem dX10_laysPass_54 : decode cX10_laysPass 54 = .ok (.bastore, 1) := by decide +kernel
theorem dX10_laysPass_55 : decode cX10_laysPass 55 = .ok (.iload_n 2, 1) := by decide +kernel
theorem dX10_laysPass_56 : decode cX10_laysPass 56 = .ok (.aload_n 0, 1) := by decide +kernel
theorem dX10_laysPass_57 : decode cX10_laysPass 57 = .ok (.getfield 69, 3) := by decide +kernel
theorem dX10_laysPass_60 : decode cX10_laysPass 60 = .ok (.iload_n 3, 1) := by decide +kernel
theorem dX10_laysPass_61 : decode cX10_laysPass 61 = .ok (.baload, 1) := by decide +kernel
theorem dX10_laysPass_62 : decode cX10_laysPass 62 = .ok (.ifCond .eq 7, 3) := by decide +kernel
theorem dX10_laysPass_65 : decode cX10_laysPass 65 = .ok (.iconst 1, 1) := by decide +kernel
theorem dX10_laysPass_66 : decode cX10_laysPass 66 = .ok (.goto 4, 3) := by decide +kernel
theorem dX10_laysPass_69 : decode cX10_laysPass 69 = .ok (.iconst 0, 1) := by decide +kernel
theorem dX10_laysPass_70 : decode cX10_laysPass 70 = .ok (.iadd, 1) := by decide +kernel
theorem dX10_laysPass_71 : decode cX10_laysPass 71 = .ok (.istore_n 2, 1) := by decide +kernel
theorem dX10_laysPass_72 : decode cX10_laysPass 72 = .ok (.iinc 3 1, 3) := by decide +kernel
theorem dX10_laysPass_75 : decode cX10_laysPass 75 = .ok (.goto (-71), 3) := by decide +kernel
theorem dX10_laysPass_78 : decode cX10_laysPass 78 = .ok (.iload_n 2, 1) := by decide +kernel
theorem dX10_laysPass_79 : decode cX10_laysPass 79 = .ok (.ireturn, 1) := by decide +kernel
theorem dX10_pass_0 : decode cX10_pass 0 = .ok (.aload_n 0, 1) := by decide +kernel
theorem dX10_pass_1 : decode cX10_pass 1 = .ok (.iload_n 1, 1) := by decide +kernel
theorem dX10_pass_2 : decode cX10_pass 2 = .ok (.invokevirtual 303, 3) := by decide +kernel
theorem dX10_pass_5 : decode cX10_pass 5 = .ok (.ifCond .eq 5, 3) := by decide +kernel
theorem dX10_pass_8 : decode cX10_pass 8 = .ok (.iconst 0, 1) := by decide +kernel
theorem dX10_pass_9 : decode cX10_pass 9 = .ok (.ireturn, 1) := by decide +kernel
theorem dX10_pass_10 : decode cX10_pass 10 = .ok (.aload_n 0, 1) := by decide +kernel
theorem dX10_pass_11 : decode cX10_pass 11 = .ok (.getfield 120, 3) := by decide +kernel
theorem dX10_pass_14 : decode cX10_pass 14 = .ok (.iload_n 1, 1) := by decide +kernel
theorem dX10_pass_15 : decode cX10_pass 15 = .ok (.invokestatic 99, 3) := by decide +kernel
theorem dX10_pass_18 : decode cX10_pass 18 = .ok (.ifCond .ne 5, 3) := by decide +kernel
theorem dX10_pass_21 : decode cX10_pass 21 = .ok (.iconst (-1), 1) := by decide +kernel
theorem dX10_pass_22 : decode cX10_pass 22 = .ok (.ireturn, 1) := by decide +kernel
theorem dX10_pass_23 : decode cX10_pass 23 = .ok (.iload_n 2, 1) := by decide +kernel
theorem dX10_pass_24 : decode cX10_pass 24 = .ok (.iconst (-1), 1) := by decide +kernel
theorem dX10_pass_25 : decode cX10_pass 25 = .ok (.if_icmp .ne 9, 3) := by decide +kernel
theorem dX10_pass_28 : decode cX10_pass 28 = .ok (.aload_n 0, 1) := by decide +kernel
theorem dX10_pass_29 : decode cX10_pass 29 = .ok (.iload_n 1, 1) := by decide +kernel
theorem dX10_pass_30 : decode cX10_pass 30 = .ok (.invokevirtual 306, 3) := by decide +kernel
theorem dX10_pass_33 : decode cX10_pass 33 = .ok (.ireturn, 1) := by decide +kernel
theorem dX10_pass_34 : decode cX10_pass 34 = .ok (.iconst (-1), 1) := by decide +kernel
theorem dX10_pass_35 : decode cX10_pass 35 = .ok (.istore_n 3, 1) := by decide +kernel
theorem dX10_pass_36 : decode cX10_pass 36 = .ok (.iconst 0, 1) := by decide +kernel
theorem dX10_pass_37 : decode cX10_pass 37 = .ok (.istore 4, 2) := by decide +kernel
theorem dX10_pass_39 : decode cX10_pass 39 = .ok (.iload 4, 2) := by decide +kernel
theorem dX10_pass_41 : decode cX10_pass 41 = .ok (.aload_n 0, 1) := by decide +kernel
theorem dX10_pass_42 : decode cX10_pass 42 = .ok (.invokevirtual 88, 3) := by decide +kernel
theorem dX10_pass_45 : decode cX10_pass 45 = .ok (.if_icmp .ge 43, 3) := by decide +kernel
theorem dX10_pass_48 : decode cX10_pass 48 = .ok (.aload_n 0, 1) := by decide +kernel
theorem dX10_pass_49 : decode cX10_pass 49 = .ok (.iload_n 1, 1) := by decide +kernel
theorem dX10_pass_50 : decode cX10_pass 50 = .ok (.invokevirtual 306, 3) := by decide +kernel
theorem dX10_pass_53 : decode cX10_pass 53 = .ok (.istore 5, 2) := by decide +kernel
theorem dX10_pass_55 : decode cX10_pass 55 = .ok (.aload_n 0, 1) := by decide +kernel
theorem dX10_pass_56 : decode cX10_pass 56 = .ok (.getfield 69, 3) := by decide +kernel
theorem dX10_pass_59 : decode cX10_pass 59 = .ok (.iload 4, 2) := by decide +kernel
theorem dX10_pass_61 : decode cX10_pass 61 = .ok (.baload, 1) := by decide +kernel
theorem dX10_pass_62 : decode cX10_pass 62 = .ok (.ifCond .eq 20, 3) := by decide +kernel
theorem dX10_pass_65 : decode cX10_pass 65 = .ok (.aload_n 0, 1) := by decide +kernel
theorem dX10_pass_66 : decode cX10_pass 66 = .ok (.aload_n 0, 1) := by decide +kernel
theorem dX10_pass_67 : decode cX10_pass 67 = .ok (.iload 4, 2) := by decide +kernel
theorem dX10_pass_69 : decode cX10_pass 69 = .ok (.invokevirtual 95, 3) := by decide +kernel
theorem dX10_pass_72 : decode cX10_pass 72 = .ok (.invokevirtual 306, 3) := by decide +kernel
theorem dX10_pass_75 : decode cX10_pass 75 = .ok (.iload_n 2, 1) := by decide +kernel
theorem dX10_pass_76 : decode cX10_pass 76 = .ok (.if_icmp .ne 6, 3) := by decide +kernel
theorem dX10_pass_79 : decode cX10_pass 79 = .ok (.iload 4, 2) := by decide +kernel
theorem dX10_pass_81 : decode cX10_pass 81 = .ok (.istore_n 3, 1) := by decide +kernel
theorem dX10_pass_82 : decode cX10_pass 82 = .ok (.iinc 4 1, 3) := by decide +kernel
theorem dX10_pass_85 : decode cX10_pass 85 = .ok (.goto (-46), 3) := by decide +kernel
theorem dX10_pass_88 : decode cX10_pass 88 = .ok (.iload_n 3, 1) := by decide +kernel
theorem dX10_pass_89 : decode cX10_pass 89 = .ok (.ireturn, 1) := by decide +kernel
theorem dX10_via_0 : decode cX10_via 0 = .ok (.aload_n 0, 1) := by decide +kernel
theorem dX10_via_1 : decode cX10_via 1 = .ok (.iload_n 1, 1) := by decide +kernel
theorem dX10_via_2 : decode cX10_via 2 = .ok (.invokevirtual 303, 3) := by decide +kernel
theorem dX10_via_5 : decode cX10_via 5 = .ok (.ifCond .ne 11, 3) := by decide +kernel
theorem dX10_via_8 : decode cX10_via 8 = .ok (.aload_n 0, 1) := by decide +kernel
theorem dX10_via_9 : decode cX10_via 9 = .ok (.iload_n 2, 1) := by decide +kernel
theorem dX10_via_10 : decode cX10_via 10 = .ok (.invokevirtual 303, 3) := by decide +kernel
theorem dX10_via_13 : decode cX10_via 13 = .ok (.ifCond .eq 5, 3) := by decide +kernel
theorem dX10_via_16 : decode cX10_via 16 = .ok (.iconst 0, 1) := by decide +kernel
theorem dX10_via_17 : decode cX10_via 17 = .ok (.ireturn, 1) := by decide +kernel
theorem dX10_via_18 : decode cX10_via 18 = .ok (.aload_n 0, 1) := by decide +kernel
theorem dX10_via_19 : decode cX10_via 19 = .ok (.iconst 1, 1) := by decide +kernel
theorem dX10_via_20 : decode cX10_via 20 = .ok (.iload_n 1, 1) := by decide +kernel
theorem dX10_via_21 : decode cX10_via 21 = .ok (.ishl, 1) := by decide +kernel
theorem dX10_via_22 : decode cX10_via 22 = .ok (.iconst 0, 1) := by decide +kernel
theorem dX10_via_23 : decode cX10_via 23 = .ok (.iconst (-1), 1) := by decide +kernel
theorem dX10_via_24 : decode cX10_via 24 = .ok (.invokevirtual 112, 3) := by decide +kernel
theorem dX10_via_27 : decode cX10_via 27 = .ok (.iload_n 2, 1) := by decide +kernel
theorem dX10_via_28 : decode cX10_via 28 = .ok (.invokestatic 99, 3) := by decide +kernel
theorem dX10_via_31 : decode cX10_via 31 = .ok (.ifCond .ne 5, 3) := by decide +kernel
theorem dX10_via_34 : decode cX10_via 34 = .ok (.iconst (-1), 1) := by decide +kernel
theorem dX10_via_35 : decode cX10_via 35 = .ok (.ireturn, 1) := by decide +kernel
theorem dX10_via_36 : decode cX10_via 36 = .ok (.iconst 0, 1) := by decide +kernel
theorem dX10_via_37 : decode cX10_via 37 = .ok (.istore_n 3, 1) := by decide +kernel
theorem dX10_via_38 : decode cX10_via 38 = .ok (.iconst 0, 1) := by decide +kernel
theorem dX10_via_39 : decode cX10_via 39 = .ok (.istore 4, 2) := by decide +kernel
theorem dX10_via_41 : decode cX10_via 41 = .ok (.iload 4, 2) := by decide +kernel
theorem dX10_via_43 : decode cX10_via 43 = .ok (.aload_n 0, 1) := by decide +kernel
theorem dX10_via_44 : decode cX10_via 44 = .ok (.invokevirtual 80, 3) := by decide +kernel
theorem dX10_via_47 : decode cX10_via 47 = .ok (.if_icmp .ge 47, 3) := by decide +kernel
theorem dX10_via_50 : decode cX10_via 50 = .ok (.iload 4, 2) := by decide +kernel
theorem dX10_via_52 : decode cX10_via 52 = .ok (.iload_n 1, 1) := by decide +kernel
theorem dX10_via_53 : decode cX10_via 53 = .ok (.if_icmp .eq 35, 3) := by decide +kernel
theorem dX10_via_56 : decode cX10_via 56 = .ok (.iload 4, 2) := by decide +kernel
theorem dX10_via_58 : decode cX10_via 58 = .ok (.iload_n 2, 1) := by decide +kernel
theorem dX10_via_59 : decode cX10_via 59 = .ok (.if_icmp .eq 29, 3) := by decide +kernel
theorem dX10_via_62 : decode cX10_via 62 = .ok (.aload_n 0, 1) := by decide +kernel
theorem dX10_via_63 : decode cX10_via 63 = .ok (.iconst 1, 1) := by decide +kernel
theorem dX10_via_64 : decode cX10_via 64 = .ok (.iload_n 1, 1) := by decide +kernel
theorem dX10_via_65 : decode cX10_via 65 = .ok (.ishl, 1) := by decide +kernel
theorem dX10_via_66 : decode cX10_via 66 = .ok (.iconst 1, 1) := by decide +kernel
theorem dX10_via_67 : decode cX10_via 67 = .ok (.iload 4, 2) := by decide +kernel
theorem dX10_via_69 : decode cX10_via 69 = .ok (.ishl, 1) := by decide +kernel
theorem dX10_via_70 : decode cX10_via 70 = .ok (.iconst (-1), 1) := by decide +kernel
theorem dX10_via_71 : decode cX10_via 71 = .ok (.invokevirtual 112, 3) := by decide +kernel
theorem dX10_via_74 : decode cX10_via 74 = .ok (.iload_n 2, 1) := by decide +kernel
theorem dX10_via_75 : decode cX10_via 75 = .ok (.invokestatic 99, 3) := by decide +kernel
theorem dX10_via_78 : decode cX10_via 78 = .ok (.ifCond .ne 10, 3) := by decide +kernel
theorem dX10_via_81 : decode cX10_via 81 = .ok (.iload_n 3, 1) := by decide +kernel
theorem dX10_via_82 : decode cX10_via 82 = .ok (.iconst 1, 1) := by decide +kernel
theorem dX10_via_83 : decode cX10_via 83 = .ok (.iload 4, 2) := by decide +kernel
theorem dX10_via_85 : decode cX10_via 85 = .ok (.ishl, 1) := by decide +kernel
theorem dX10_via_86 : decode cX10_via 86 = .ok (.ior, 1) := by decide +kernel
theorem dX10_via_87 : decode cX10_via 87 = .ok (.istore_n 3, 1) := by decide +kernel
theorem dX10_via_88 : decode cX10_via 88 = .ok (.iinc 4 1, 3) := by decide +kernel
theorem dX10_via_91 : decode cX10_via 91 = .ok (.goto (-50), 3) := by decide +kernel
theorem dX10_via_94 : decode cX10_via 94 = .ok (.iload_n 3, 1) := by decide +kernel
theorem dX10_via_95 : decode cX10_via 95 = .ok (.ireturn, 1) := by decide +kernel
theorem dX10_row_0 : decode cX10_row 0 = .ok (.aload_n 0, 1) := by decide +kernel
theorem dX10_row_1 : decode cX10_row 1 = .ok (.iconst 0, 1) := by decide +kernel
theorem dX10_row_2 : decode cX10_row 2 = .ok (.putfield 1, 3) := by decide +kernel
theorem dX10_row_5 : decode cX10_row 5 = .ok (.aload_n 0, 1) := by decide +kernel
theorem dX10_row_6 : decode cX10_row 6 = .ok (.invokevirtual 126, 3) := by decide +kernel
theorem dX10_row_9 : decode cX10_row 9 = .ok (.iload_n 1, 1) := by decide +kernel
theorem dX10_row_10 : decode cX10_row 10 = .ok (.istore_n 2, 1) := by decide +kernel
theorem dX10_row_11 : decode cX10_row 11 = .ok (.iconst 0, 1) := by decide +kernel
theorem dX10_row_12 : decode cX10_row 12 = .ok (.istore_n 3, 1) := by decide +kernel
theorem dX10_row_13 : decode cX10_row 13 = .ok (.iload_n 3, 1) := by decide +kernel
theorem dX10_row_14 : decode cX10_row 14 = .ok (.bipush 16, 2) := by decide +kernel
theorem dX10_row_16 : decode cX10_row 16 = .ok (.if_icmp .ge 62, 3) := by decide +kernel
theorem dX10_row_19 : decode cX10_row 19 = .ok (.iconst 0, 1) := by decide +kernel
theorem dX10_row_20 : decode cX10_row 20 = .ok (.istore 4, 2) := by decide +kernel
theorem dX10_row_22 : decode cX10_row 22 = .ok (.iload 4, 2) := by decide +kernel
theorem dX10_row_24 : decode cX10_row 24 = .ok (.aload_n 0, 1) := by decide +kernel
theorem dX10_row_25 : decode cX10_row 25 = .ok (.invokevirtual 80, 3) := by decide +kernel
theorem dX10_row_28 : decode cX10_row 28 = .ok (.if_icmp .ge 44, 3) := by decide +kernel
theorem dX10_row_31 : decode cX10_row 31 = .ok (.aload_n 0, 1) := by decide +kernel
theorem dX10_row_32 : decode cX10_row 32 = .ok (.getfield 120, 3) := by decide +kernel
theorem dX10_row_35 : decode cX10_row 35 = .ok (.iload 4, 2) := by decide +kernel
theorem dX10_row_37 : decode cX10_row 37 = .ok (.invokestatic 99, 3) := by decide +kernel
theorem dX10_row_40 : decode cX10_row 40 = .ok (.ifCond .eq 26, 3) := by decide +kernel
theorem dX10_row_43 : decode cX10_row 43 = .ok (.aload_n 0, 1) := by decide +kernel
theorem dX10_row_44 : decode cX10_row 44 = .ok (.iload 4, 2) := by decide +kernel
theorem dX10_row_46 : decode cX10_row 46 = .ok (.invokevirtual 309, 3) := by decide +kernel
theorem dX10_row_49 : decode cX10_row 49 = .ok (.iload_n 3, 1) := by decide +kernel
theorem dX10_row_50 : decode cX10_row 50 = .ok (.if_icmp .eq 6, 3) := by decide +kernel
theorem dX10_row_53 : decode cX10_row 53 = .ok (.goto 13, 3) := by decide +kernel
theorem dX10_row_56 : decode cX10_row 56 = .ok (.iload_n 2, 1) := by decide +kernel
theorem dX10_row_57 : decode cX10_row 57 = .ok (.ifCond .ne 6, 3) := by decide +kernel
theorem dX10_row_60 : decode cX10_row 60 = .ok (.iload 4, 2) := by decide +kernel
theorem dX10_row_62 : decode cX10_row 62 = .ok (.ireturn, 1) := by decide +kernel
theorem dX10_row_63 : decode cX10_row 63 = .ok (.iinc 2 (-1), 3) := by decide +kernel
theorem dX10_row_66 : decode cX10_row 66 = .ok (.iinc 4 1, 3) := by decide +kernel
theorem dX10_row_69 : decode cX10_row 69 = .ok (.goto (-47), 3) := by decide +kernel
theorem dX10_row_72 : decode cX10_row 72 = .ok (.iinc 3 1, 3) := by decide +kernel
theorem dX10_row_75 : decode cX10_row 75 = .ok (.goto (-62), 3) := by decide +kernel
theorem dX10_row_78 : decode cX10_row 78 = .ok (.iconst (-1), 1) := by decide +kernel
theorem dX10_row_79 : decode cX10_row 79 = .ok (.ireturn, 1) := by decide +kernel
theorem dX10_node_0 : decode cX10_node 0 = .ok (.aload_n 0, 1) := by decide +kernel
theorem dX10_node_1 : decode cX10_node 1 = .ok (.iload_n 1, 1) := by decide +kernel
theorem dX10_node_2 : decode cX10_node 2 = .ok (.invokevirtual 303, 3) := by decide +kernel
theorem dX10_node_5 : decode cX10_node 5 = .ok (.ifCond .ne 26, 3) := by decide +kernel
theorem dX10_node_8 : decode cX10_node 8 = .ok (.aload_n 0, 1) := by decide +kernel
theorem dX10_node_9 : decode cX10_node 9 = .ok (.iload_n 2, 1) := by decide +kernel
theorem dX10_node_10 : decode cX10_node 10 = .ok (.iconst 0, 1) := by decide +kernel
theorem dX10_node_11 : decode cX10_node 11 = .ok (.bipush 21, 2) := by decide +kernel
theorem dX10_node_13 : decode cX10_node 13 = .ok (.invokestatic 84, 3) := by decide +kernel
theorem dX10_node_16 : decode cX10_node 16 = .ok (.ifCond .ne 7, 3) := by decide +kernel
theorem dX10_node_19 : decode cX10_node 19 = .ok (.iconst 1, 1) := by decide +kernel
theorem dX10_node_20 : decode cX10_node 20 = .ok (.goto 4, 3) := by decide +kernel
theorem dX10_node_23 : decode cX10_node 23 = .ok (.iconst 0, 1) := by decide +kernel
theorem dX10_node_24 : decode cX10_node 24 = .ok (.iconst 2, 1) := by decide +kernel
theorem dX10_node_25 : decode cX10_node 25 = .ok (.invokevirtual 157, 3) := by decide +kernel
theorem dX10_node_28 : decode cX10_node 28 = .ok (.ifCond .eq 5, 3) := by decide +kernel
theorem dX10_node_31 : decode cX10_node 31 = .ok (.iconst 0, 1) := by decide +kernel
theorem dX10_node_32 : decode cX10_node 32 = .ok (.ireturn, 1) := by decide +kernel
theorem dX10_node_33 : decode cX10_node 33 = .ok (.aload_n 0, 1) := by decide +kernel
theorem dX10_node_34 : decode cX10_node 34 = .ok (.getfield 120, 3) := by decide +kernel
theorem dX10_node_37 : decode cX10_node 37 = .ok (.iload_n 1, 1) := by decide +kernel
theorem dX10_node_38 : decode cX10_node 38 = .ok (.invokestatic 99, 3) := by decide +kernel
theorem dX10_node_41 : decode cX10_node 41 = .ok (.istore_n 3, 1) := by decide +kernel
theorem dX10_node_42 : decode cX10_node 42 = .ok (.iload_n 2, 1) := by decide +kernel
theorem dX10_node_43 : decode cX10_node 43 = .ok (.tableswitch 243 0 20 #[97, 107, 114, 121, 128, 134, 140, 146, 152, 158, 164, 170, 176, 182, 188, 197, 211, 217, 223, 229, 236], 97) := by decide +kernel
theorem dX10_node_140 : decode cX10_node 140 = .ok (.iload_n 3, 1) := by decide +kernel
theorem dX10_node_141 : decode cX10_node 141 = .ok (.ifCond .eq 7, 3) := by decide +kernel
theorem dX10_node_144 : decode cX10_node 144 = .ok (.iconst 1, 1) := by decide +kernel
theorem dX10_node_145 : decode cX10_node 145 = .ok (.goto 4, 3) := by decide +kernel
theorem dX10_node_148 : decode cX10_node 148 = .ok (.iconst 0, 1) := by decide +kernel
theorem dX10_node_149 : decode cX10_node 149 = .ok (.ireturn, 1) := by decide +kernel
theorem dX10_node_150 : decode cX10_node 150 = .ok (.aload_n 0, 1) := by decide +kernel
theorem dX10_node_151 : decode cX10_node 151 = .ok (.getfield 38, 3) := by decide +kernel
theorem dX10_node_154 : decode cX10_node 154 = .ok (.iload_n 1, 1) := by decide +kernel
theorem dX10_node_155 : decode cX10_node 155 = .ok (.iaload, 1) := by decide +kernel
theorem dX10_node_156 : decode cX10_node 156 = .ok (.ireturn, 1) := by decide +kernel
theorem dX10_node_157 : decode cX10_node 157 = .ok (.aload_n 0, 1) := by decide +kernel
theorem dX10_node_158 : decode cX10_node 158 = .ok (.getfield 35, 3) := by decide +kernel
theorem dX10_node_161 : decode cX10_node 161 = .ok (.iload_n 1, 1) := by decide +kernel
theorem dX10_node_162 : decode cX10_node 162 = .ok (.iaload, 1) := by decide +kernel
theorem dX10_node_163 : decode cX10_node 163 = .ok (.ireturn, 1) := by decide +kernel
theorem dX10_node_164 : decode cX10_node 164 = .ok (.aload_n 0, 1) := by decide +kernel
theorem dX10_node_165 : decode cX10_node 165 = .ok (.getfield 32, 3) := by decide +kernel
theorem dX10_node_168 : decode cX10_node 168 = .ok (.iload_n 1, 1) := by decide +kernel
theorem dX10_node_169 : decode cX10_node 169 = .ok (.iaload, 1) := by decide +kernel
theorem dX10_node_170 : decode cX10_node 170 = .ok (.ireturn, 1) := by decide +kernel
theorem dX10_node_171 : decode cX10_node 171 = .ok (.aload_n 0, 1) := by decide +kernel
theorem dX10_node_172 : decode cX10_node 172 = .ok (.iload_n 1, 1) := by decide +kernel
theorem dX10_node_173 : decode cX10_node 173 = .ok (.invokevirtual 276, 3) := by decide +kernel
theorem dX10_node_176 : decode cX10_node 176 = .ok (.ireturn, 1) := by decide +kernel
theorem dX10_node_177 : decode cX10_node 177 = .ok (.aload_n 0, 1) := by decide +kernel
theorem dX10_node_178 : decode cX10_node 178 = .ok (.iload_n 1, 1) := by decide +kernel
theorem dX10_node_179 : decode cX10_node 179 = .ok (.invokevirtual 312, 3) := by decide +kernel
theorem dX10_node_182 : decode cX10_node 182 = .ok (.ireturn, 1) := by decide +kernel
theorem dX10_node_183 : decode cX10_node 183 = .ok (.aload_n 0, 1) := by decide +kernel
theorem dX10_node_184 : decode cX10_node 184 = .ok (.iload_n 1, 1) := by decide +kernel
theorem dX10_node_185 : decode cX10_node 185 = .ok (.invokevirtual 315, 3) := by decide +kernel
theorem dX10_node_188 : decode cX10_node 188 = .ok (.ireturn, 1) := by decide +kernel
theorem dX10_node_189 : decode cX10_node 189 = .ok (.aload_n 0, 1) := by decide +kernel
theorem dX10_node_190 : decode cX10_node 190 = .ok (.iload_n 1, 1) := by decide +kernel
theorem dX10_node_191 : decode cX10_node 191 = .ok (.invokevirtual 288, 3) := by decide +kernel
theorem dX10_node_194 : decode cX10_node 194 = .ok (.ireturn, 1) := by decide +kernel
theorem dX10_node_195 : decode cX10_node 195 = .ok (.aload_n 0, 1) := by decide +kernel
theorem dX10_node_196 : decode cX10_node 196 = .ok (.iload_n 1, 1) := by decide +kernel
theorem dX10_node_197 : decode cX10_node 197 = .ok (.invokevirtual 318, 3) := by decide +kernel
theorem dX10_node_200 : decode cX10_node 200 = .ok (.ireturn, 1) := by decide +kernel
theorem dX10_node_201 : decode cX10_node 201 = .ok (.aload_n 0, 1) := by decide +kernel
theorem dX10_node_202 : decode cX10_node 202 = .ok (.iload_n 1, 1) := by decide +kernel
theorem dX10_node_203 : decode cX10_node 203 = .ok (.invokevirtual 309, 3) := by decide +kernel
theorem dX10_node_206 : decode cX10_node 206 = .ok (.ireturn, 1) := by decide +kernel
theorem dX10_node_207 : decode cX10_node 207 = .ok (.aload_n 0, 1) := by decide +kernel
theorem dX10_node_208 : decode cX10_node 208 = .ok (.iload_n 1, 1) := by decide +kernel
theorem dX10_node_209 : decode cX10_node 209 = .ok (.invokevirtual 321, 3) := by decide +kernel
theorem dX10_node_212 : decode cX10_node 212 = .ok (.ireturn, 1) := by decide +kernel
theorem dX10_node_213 : decode cX10_node 213 = .ok (.aload_n 0, 1) := by decide +kernel
theorem dX10_node_214 : decode cX10_node 214 = .ok (.iload_n 1, 1) := by decide +kernel
theorem dX10_node_215 : decode cX10_node 215 = .ok (.invokevirtual 294, 3) := by decide +kernel
theorem dX10_node_218 : decode cX10_node 218 = .ok (.ireturn, 1) := by decide +kernel
theorem dX10_node_219 : decode cX10_node 219 = .ok (.aload_n 0, 1) := by decide +kernel
theorem dX10_node_220 : decode cX10_node 220 = .ok (.iload_n 1, 1) := by decide +kernel
theorem dX10_node_221 : decode cX10_node 221 = .ok (.invokevirtual 324, 3) := by decide +kernel
theorem dX10_node_224 : decode cX10_node 224 = .ok (.ireturn, 1) := by decide +kernel
theorem dX10_node_225 : decode cX10_node 225 = .ok (.aload_n 0, 1) := by decide +kernel
theorem dX10_node_226 : decode cX10_node 226 = .ok (.iload_n 1, 1) := by decide +kernel
theorem dX10_node_227 : decode cX10_node 227 = .ok (.invokevirtual 327, 3) := by decide +kernel
theorem dX10_node_230 : decode cX10_node 230 = .ok (.ireturn, 1) := by decide +kernel
theorem dX10_node_231 : decode cX10_node 231 = .ok (.aload_n 0, 1) := by decide +kernel
theorem dX10_node_232 : decode cX10_node 232 = .ok (.getfield 13, 3) := by decide +kernel
theorem dX10_node_235 : decode cX10_node 235 = .ok (.iconst 4, 1) := by decide +kernel
theorem dX10_node_236 : decode cX10_node 236 = .ok (.iload_n 1, 1) := by decide +kernel
theorem dX10_node_237 : decode cX10_node 237 = .ok (.iadd, 1) := by decide +kernel
theorem dX10_node_238 : decode cX10_node 238 = .ok (.iaload, 1) := by decide +kernel
theorem dX10_node_239 : decode cX10_node 239 = .ok (.ireturn, 1) := by decide +kernel
theorem dX10_node_240 : decode cX10_node 240 = .ok (.iload_n 3, 1) := by decide +kernel
theorem dX10_node_241 : decode cX10_node 241 = .ok (.ifCond .eq 11, 3) := by decide +kernel
theorem dX10_node_244 : decode cX10_node 244 = .ok (.aload_n 0, 1) := by decide +kernel
theorem dX10_node_245 : decode cX10_node 245 = .ok (.iload_n 1, 1) := by decide +kernel
theorem dX10_node_246 : decode cX10_node 246 = .ok (.invokevirtual 330, 3) := by decide +kernel
theorem dX10_node_249 : decode cX10_node 249 = .ok (.goto 4, 3) := by decide +kernel
theorem dX10_node_252 : decode cX10_node 252 = .ok (.iconst (-1), 1) := by decide +kernel
theorem dX10_node_253 : decode cX10_node 253 = .ok (.ireturn, 1) := by decide +kernel
theorem dX10_node_254 : decode cX10_node 254 = .ok (.aload_n 0, 1) := by decide +kernel
theorem dX10_node_255 : decode cX10_node 255 = .ok (.iload_n 1, 1) := by decide +kernel
theorem dX10_node_256 : decode cX10_node 256 = .ok (.invokevirtual 333, 3) := by decide +kernel
theorem dX10_node_259 : decode cX10_node 259 = .ok (.ireturn, 1) := by decide +kernel
theorem dX10_node_260 : decode cX10_node 260 = .ok (.aload_n 0, 1) := by decide +kernel
theorem dX10_node_261 : decode cX10_node 261 = .ok (.iload_n 1, 1) := by decide +kernel
theorem dX10_node_262 : decode cX10_node 262 = .ok (.invokevirtual 336, 3) := by decide +kernel
theorem dX10_node_265 : decode cX10_node 265 = .ok (.ireturn, 1) := by decide +kernel
theorem dX10_node_266 : decode cX10_node 266 = .ok (.aload_n 0, 1) := by decide +kernel
theorem dX10_node_267 : decode cX10_node 267 = .ok (.iload_n 1, 1) := by decide +kernel
theorem dX10_node_268 : decode cX10_node 268 = .ok (.invokevirtual 339, 3) := by decide +kernel
theorem dX10_node_271 : decode cX10_node 271 = .ok (.ireturn, 1) := by decide +kernel
theorem dX10_node_272 : decode cX10_node 272 = .ok (.aload_n 0, 1) := by decide +kernel
theorem dX10_node_273 : decode cX10_node 273 = .ok (.iload_n 1, 1) := by decide +kernel
theorem dX10_node_274 : decode cX10_node 274 = .ok (.iconst 0, 1) := by decide +kernel
theorem dX10_node_275 : decode cX10_node 275 = .ok (.invokevirtual 300, 3) := by decide +kernel
theorem dX10_node_278 : decode cX10_node 278 = .ok (.ireturn, 1) := by decide +kernel
theorem dX10_node_279 : decode cX10_node 279 = .ok (.aload_n 0, 1) := by decide +kernel
theorem dX10_node_280 : decode cX10_node 280 = .ok (.iload_n 1, 1) := by decide +kernel
theorem dX10_node_281 : decode cX10_node 281 = .ok (.iconst 1, 1) := by decide +kernel
theorem dX10_node_282 : decode cX10_node 282 = .ok (.invokevirtual 300, 3) := by decide +kernel
theorem dX10_node_285 : decode cX10_node 285 = .ok (.ireturn, 1) := by decide +kernel
theorem dX10_node_286 : decode cX10_node 286 = .ok (.aload_n 0, 1) := by decide +kernel
theorem dX10_node_287 : decode cX10_node 287 = .ok (.iload_n 1, 1) := by decide +kernel
theorem dX10_node_288 : decode cX10_node 288 = .ok (.invokevirtual 342, 3) := by decide +kernel
theorem dX10_node_291 : decode cX10_node 291 = .ok (.ireturn, 1) := by decide +kernel
theorem dX10_keeps_0 : decode cX10_keeps 0 = .ok (.aload_n 0, 1) := by decide +kernel
theorem dX10_keeps_1 : decode cX10_keeps 1 = .ok (.iload_n 1, 1) := by decide +kernel
theorem dX10_keeps_2 : decode cX10_keeps 2 = .ok (.invokevirtual 303, 3) := by decide +kernel
theorem dX10_keeps_5 : decode cX10_keeps 5 = .ok (.ifCond .ne 24, 3) := by decide +kernel
theorem dX10_keeps_8 : decode cX10_keeps 8 = .ok (.aload_n 0, 1) := by decide +kernel
theorem dX10_keeps_9 : decode cX10_keeps 9 = .ok (.iload_n 2, 1) := by decide +kernel
theorem dX10_keeps_10 : decode cX10_keeps 10 = .ok (.invokevirtual 303, 3) := by decide +kernel
theorem dX10_keeps_13 : decode cX10_keeps 13 = .ok (.ifCond .ne 16, 3) := by decide +kernel
theorem dX10_keeps_16 : decode cX10_keeps 16 = .ok (.aload_n 0, 1) := by decide +kernel
theorem dX10_keeps_17 : decode cX10_keeps 17 = .ok (.iload_n 1, 1) := by decide +kernel
theorem dX10_keeps_18 : decode cX10_keeps 18 = .ok (.iload_n 2, 1) := by decide +kernel
theorem dX10_keeps_19 : decode cX10_keeps 19 = .ok (.invokevirtual 279, 3) := by decide +kernel
theorem dX10_keeps_22 : decode cX10_keeps 22 = .ok (.ifCond .eq 7, 3) := by decide +kernel
theorem dX10_keeps_25 : decode cX10_keeps 25 = .ok (.iconst 1, 1) := by decide +kernel
theorem dX10_keeps_26 : decode cX10_keeps 26 = .ok (.goto 4, 3) := by decide +kernel
theorem dX10_keeps_29 : decode cX10_keeps 29 = .ok (.iconst 0, 1) := by decide +kernel
theorem dX10_keeps_30 : decode cX10_keeps 30 = .ok (.ireturn, 1) := by decide +kernel
theorem dX10_common_0 : decode cX10_common 0 = .ok (.aload_n 0, 1) := by decide +kernel
theorem dX10_common_1 : decode cX10_common 1 = .ok (.iload_n 1, 1) := by decide +kernel
theorem dX10_common_2 : decode cX10_common 2 = .ok (.invokevirtual 303, 3) := by decide +kernel
theorem dX10_common_5 : decode cX10_common 5 = .ok (.ifCond .ne 33, 3) := by decide +kernel
theorem dX10_common_8 : decode cX10_common 8 = .ok (.aload_n 0, 1) := by decide +kernel
theorem dX10_common_9 : decode cX10_common 9 = .ok (.iload_n 2, 1) := by decide +kernel
theorem dX10_common_10 : decode cX10_common 10 = .ok (.invokevirtual 303, 3) := by decide +kernel
theorem dX10_common_13 : decode cX10_common 13 = .ok (.ifCond .ne 25, 3) := by decide +kernel
theorem dX10_common_16 : decode cX10_common 16 = .ok (.aload_n 0, 1) := by decide +kernel
theorem dX10_common_17 : decode cX10_common 17 = .ok (.getfield 120, 3) := by decide +kernel
theorem dX10_common_20 : decode cX10_common 20 = .ok (.iload_n 1, 1) := by decide +kernel
theorem dX10_common_21 : decode cX10_common 21 = .ok (.invokestatic 99, 3) := by decide +kernel
theorem dX10_common_24 : decode cX10_common 24 = .ok (.ifCond .eq 14, 3) := by decide +kernel
theorem dX10_common_27 : decode cX10_common 27 = .ok (.aload_n 0, 1) := by decide +kernel
theorem dX10_common_28 : decode cX10_common 28 = .ok (.getfield 120, 3) := by decide +kernel
theorem dX10_common_31 : decode cX10_common 31 = .ok (.iload_n 2, 1) := by decide +kernel
theorem dX10_common_32 : decode cX10_common 32 = .ok (.invokestatic 99, 3) := by decide +kernel
theorem dX10_common_35 : decode cX10_common 35 = .ok (.ifCond .ne 16, 3) := by decide +kernel
theorem dX10_common_38 : decode cX10_common 38 = .ok (.aload_n 0, 1) := by decide +kernel
theorem dX10_common_39 : decode cX10_common 39 = .ok (.getfield 1, 3) := by decide +kernel
theorem dX10_common_42 : decode cX10_common 42 = .ok (.ifCond .le 7, 3) := by decide +kernel
theorem dX10_common_45 : decode cX10_common 45 = .ok (.iconst 0, 1) := by decide +kernel
theorem dX10_common_46 : decode cX10_common 46 = .ok (.goto 4, 3) := by decide +kernel
theorem dX10_common_49 : decode cX10_common 49 = .ok (.iconst (-1), 1) := by decide +kernel
theorem dX10_common_50 : decode cX10_common 50 = .ok (.ireturn, 1) := by decide +kernel
theorem dX10_common_51 : decode cX10_common 51 = .ok (.aload_n 0, 1) := by decide +kernel
theorem dX10_common_52 : decode cX10_common 52 = .ok (.getfield 32, 3) := by decide +kernel
theorem dX10_common_55 : decode cX10_common 55 = .ok (.iload_n 1, 1) := by decide +kernel
theorem dX10_common_56 : decode cX10_common 56 = .ok (.iaload, 1) := by decide +kernel
theorem dX10_common_57 : decode cX10_common 57 = .ok (.iconst 1, 1) := by decide +kernel
theorem dX10_common_58 : decode cX10_common 58 = .ok (.iload_n 1, 1) := by decide +kernel
theorem dX10_common_59 : decode cX10_common 59 = .ok (.ishl, 1) := by decide +kernel
theorem dX10_common_60 : decode cX10_common 60 = .ok (.ior, 1) := by decide +kernel
theorem dX10_common_61 : decode cX10_common 61 = .ok (.aload_n 0, 1) := by decide +kernel
theorem dX10_common_62 : decode cX10_common 62 = .ok (.getfield 32, 3) := by decide +kernel
theorem dX10_common_65 : decode cX10_common 65 = .ok (.iload_n 2, 1) := by decide +kernel
theorem dX10_common_66 : decode cX10_common 66 = .ok (.iaload, 1) := by decide +kernel
theorem dX10_common_67 : decode cX10_common 67 = .ok (.iconst 1, 1) := by decide +kernel
theorem dX10_common_68 : decode cX10_common 68 = .ok (.iload_n 2, 1) := by decide +kernel
theorem dX10_common_69 : decode cX10_common 69 = .ok (.ishl, 1) := by decide +kernel
theorem dX10_common_70 : decode cX10_common 70 = .ok (.ior, 1) := by decide +kernel
theorem dX10_common_71 : decode cX10_common 71 = .ok (.iand, 1) := by decide +kernel
theorem dX10_common_72 : decode cX10_common 72 = .ok (.istore_n 3, 1) := by decide +kernel
theorem dX10_common_73 : decode cX10_common 73 = .ok (.iconst (-1), 1) := by decide +kernel
theorem dX10_common_74 : decode cX10_common 74 = .ok (.istore 4, 2) := by decide +kernel
theorem dX10_common_76 : decode cX10_common 76 = .ok (.iconst 0, 1) := by decide +kernel
theorem dX10_common_77 : decode cX10_common 77 = .ok (.istore 5, 2) := by decide +kernel
theorem dX10_common_79 : decode cX10_common 79 = .ok (.iload 5, 2) := by decide +kernel
theorem dX10_common_81 : decode cX10_common 81 = .ok (.aload_n 0, 1) := by decide +kernel
theorem dX10_common_82 : decode cX10_common 82 = .ok (.invokevirtual 80, 3) := by decide +kernel
theorem dX10_common_85 : decode cX10_common 85 = .ok (.if_icmp .ge 45, 3) := by decide +kernel
theorem dX10_common_88 : decode cX10_common 88 = .ok (.iload_n 3, 1) := by decide +kernel
theorem dX10_common_89 : decode cX10_common 89 = .ok (.iload 5, 2) := by decide +kernel
theorem dX10_common_91 : decode cX10_common 91 = .ok (.invokestatic 99, 3) := by decide +kernel
theorem dX10_common_94 : decode cX10_common 94 = .ok (.ifCond .eq 30, 3) := by decide +kernel
theorem dX10_common_97 : decode cX10_common 97 = .ok (.iload 4, 2) := by decide +kernel
theorem dX10_common_99 : decode cX10_common 99 = .ok (.iconst (-1), 1) := by decide +kernel
theorem dX10_common_100 : decode cX10_common 100 = .ok (.if_icmp .eq 20, 3) := by decide +kernel
theorem dX10_common_103 : decode cX10_common 103 = .ok (.aload_n 0, 1) := by decide +kernel
theorem dX10_common_104 : decode cX10_common 104 = .ok (.getfield 35, 3) := by decide +kernel
theorem dX10_common_107 : decode cX10_common 107 = .ok (.iload 5, 2) := by decide +kernel
theorem dX10_common_109 : decode cX10_common 109 = .ok (.iaload, 1) := by decide +kernel
theorem dX10_common_110 : decode cX10_common 110 = .ok (.aload_n 0, 1) := by decide +kernel
theorem dX10_common_111 : decode cX10_common 111 = .ok (.getfield 35, 3) := by decide +kernel
theorem dX10_common_114 : decode cX10_common 114 = .ok (.iload 4, 2) := by decide +kernel
theorem dX10_common_116 : decode cX10_common 116 = .ok (.iaload, 1) := by decide +kernel
theorem dX10_common_117 : decode cX10_common 117 = .ok (.if_icmp .le 7, 3) := by decide +kernel
theorem dX10_common_120 : decode cX10_common 120 = .ok (.iload 5, 2) := by decide +kernel
theorem dX10_common_122 : decode cX10_common 122 = .ok (.istore 4, 2) := by decide +kernel
theorem dX10_common_124 : decode cX10_common 124 = .ok (.iinc 5 1, 3) := by decide +kernel
theorem dX10_common_127 : decode cX10_common 127 = .ok (.goto (-48), 3) := by decide +kernel
theorem dX10_common_130 : decode cX10_common 130 = .ok (.iload 4, 2) := by decide +kernel
theorem dX10_common_132 : decode cX10_common 132 = .ok (.ireturn, 1) := by decide +kernel
theorem dX10_nextOf_0 : decode cX10_nextOf 0 = .ok (.aload_n 0, 1) := by decide +kernel
theorem dX10_nextOf_1 : decode cX10_nextOf 1 = .ok (.iload_n 1, 1) := by decide +kernel
theorem dX10_nextOf_2 : decode cX10_nextOf 2 = .ok (.invokevirtual 312, 3) := by decide +kernel
theorem dX10_nextOf_5 : decode cX10_nextOf 5 = .ok (.istore_n 2, 1) := by decide +kernel
theorem dX10_nextOf_6 : decode cX10_nextOf 6 = .ok (.iconst 0, 1) := by decide +kernel
theorem dX10_nextOf_7 : decode cX10_nextOf 7 = .ok (.istore_n 3, 1) := by decide +kernel
theorem dX10_nextOf_8 : decode cX10_nextOf 8 = .ok (.iload_n 3, 1) := by decide +kernel
theorem dX10_nextOf_9 : decode cX10_nextOf 9 = .ok (.aload_n 0, 1) := by decide +kernel
theorem dX10_nextOf_10 : decode cX10_nextOf 10 = .ok (.invokevirtual 80, 3) := by decide +kernel
theorem dX10_nextOf_13 : decode cX10_nextOf 13 = .ok (.if_icmp .ge 19, 3) := by decide +kernel
theorem dX10_nextOf_16 : decode cX10_nextOf 16 = .ok (.iload_n 2, 1) := by decide +kernel
theorem dX10_nextOf_17 : decode cX10_nextOf 17 = .ok (.iload_n 3, 1) := by decide +kernel
theorem dX10_nextOf_18 : decode cX10_nextOf 18 = .ok (.invokestatic 99, 3) := by decide +kernel
theorem dX10_nextOf_21 : decode cX10_nextOf 21 = .ok (.ifCond .eq 5, 3) := by decide +kernel
theorem dX10_nextOf_24 : decode cX10_nextOf 24 = .ok (.iload_n 3, 1) := by decide +kernel
theorem dX10_nextOf_25 : decode cX10_nextOf 25 = .ok (.ireturn, 1) := by decide +kernel
theorem dX10_nextOf_26 : decode cX10_nextOf 26 = .ok (.iinc 3 1, 3) := by decide +kernel
theorem dX10_nextOf_29 : decode cX10_nextOf 29 = .ok (.goto (-21), 3) := by decide +kernel
theorem dX10_nextOf_32 : decode cX10_nextOf 32 = .ok (.iload_n 1, 1) := by decide +kernel
theorem dX10_nextOf_33 : decode cX10_nextOf 33 = .ok (.istore_n 3, 1) := by decide +kernel
theorem dX10_nextOf_34 : decode cX10_nextOf 34 = .ok (.aload_n 0, 1) := by decide +kernel
theorem dX10_nextOf_35 : decode cX10_nextOf 35 = .ok (.getfield 38, 3) := by decide +kernel
theorem dX10_nextOf_38 : decode cX10_nextOf 38 = .ok (.iload_n 3, 1) := by decide +kernel
theorem dX10_nextOf_39 : decode cX10_nextOf 39 = .ok (.iaload, 1) := by decide +kernel
theorem dX10_nextOf_40 : decode cX10_nextOf 40 = .ok (.iconst (-1), 1) := by decide +kernel
theorem dX10_nextOf_41 : decode cX10_nextOf 41 = .ok (.if_icmp .eq 52, 3) := by decide +kernel
theorem dX10_nextOf_44 : decode cX10_nextOf 44 = .ok (.iload_n 3, 1) := by decide +kernel
theorem dX10_nextOf_45 : decode cX10_nextOf 45 = .ok (.iconst 1, 1) := by decide +kernel
theorem dX10_nextOf_46 : decode cX10_nextOf 46 = .ok (.iadd, 1) := by decide +kernel
theorem dX10_nextOf_47 : decode cX10_nextOf 47 = .ok (.istore 4, 2) := by decide +kernel
theorem dX10_nextOf_49 : decode cX10_nextOf 49 = .ok (.iload 4, 2) := by decide +kernel
theorem dX10_nextOf_51 : decode cX10_nextOf 51 = .ok (.aload_n 0, 1) := by decide +kernel
theorem dX10_nextOf_52 : decode cX10_nextOf 52 = .ok (.invokevirtual 80, 3) := by decide +kernel
theorem dX10_nextOf_55 : decode cX10_nextOf 55 = .ok (.if_icmp .ge 28, 3) := by decide +kernel
theorem dX10_nextOf_58 : decode cX10_nextOf 58 = .ok (.aload_n 0, 1) := by decide +kernel
theorem dX10_nextOf_59 : decode cX10_nextOf 59 = .ok (.getfield 38, 3) := by decide +kernel
theorem dX10_nextOf_62 : decode cX10_nextOf 62 = .ok (.iload 4, 2) := by decide +kernel
theorem dX10_nextOf_64 : decode cX10_nextOf 64 = .ok (.iaload, 1) := by decide +kernel
theorem dX10_nextOf_65 : decode cX10_nextOf 65 = .ok (.aload_n 0, 1) := by decide +kernel
theorem dX10_nextOf_66 : decode cX10_nextOf 66 = .ok (.getfield 38, 3) := by decide +kernel
theorem dX10_nextOf_69 : decode cX10_nextOf 69 = .ok (.iload_n 3, 1) := by decide +kernel
theorem dX10_nextOf_70 : decode cX10_nextOf 70 = .ok (.iaload, 1) := by decide +kernel
theorem dX10_nextOf_71 : decode cX10_nextOf 71 = .ok (.if_icmp .ne 6, 3) := by decide +kernel
theorem dX10_nextOf_74 : decode cX10_nextOf 74 = .ok (.iload 4, 2) := by decide +kernel
theorem dX10_nextOf_76 : decode cX10_nextOf 76 = .ok (.ireturn, 1) := by decide +kernel
theorem dX10_nextOf_77 : decode cX10_nextOf 77 = .ok (.iinc 4 1, 3) := by decide +kernel
theorem dX10_nextOf_80 : decode cX10_nextOf 80 = .ok (.goto (-31), 3) := by decide +kernel
theorem dX10_nextOf_83 : decode cX10_nextOf 83 = .ok (.aload_n 0, 1) := by decide +kernel
theorem dX10_nextOf_84 : decode cX10_nextOf 84 = .ok (.getfield 38, 3) := by decide +kernel
theorem dX10_nextOf_87 : decode cX10_nextOf 87 = .ok (.iload_n 3, 1) := by decide +kernel
theorem dX10_nextOf_88 : decode cX10_nextOf 88 = .ok (.iaload, 1) := by decide +kernel
theorem dX10_nextOf_89 : decode cX10_nextOf 89 = .ok (.istore_n 3, 1) := by decide +kernel
theorem dX10_nextOf_90 : decode cX10_nextOf 90 = .ok (.goto (-56), 3) := by decide +kernel
theorem dX10_nextOf_93 : decode cX10_nextOf 93 = .ok (.iconst (-1), 1) := by decide +kernel
theorem dX10_nextOf_94 : decode cX10_nextOf 94 = .ok (.ireturn, 1) := by decide +kernel
theorem dX10_walk_0 : decode cX10_walk 0 = .ok (.aload_n 0, 1) := by decide +kernel
theorem dX10_walk_1 : decode cX10_walk 1 = .ok (.iconst 0, 1) := by decide +kernel
theorem dX10_walk_2 : decode cX10_walk 2 = .ok (.putfield 1, 3) := by decide +kernel
theorem dX10_walk_5 : decode cX10_walk 5 = .ok (.aload_n 0, 1) := by decide +kernel
theorem dX10_walk_6 : decode cX10_walk 6 = .ok (.invokevirtual 126, 3) := by decide +kernel
theorem dX10_walk_9 : decode cX10_walk 9 = .ok (.iload_n 1, 1) := by decide +kernel
theorem dX10_walk_10 : decode cX10_walk 10 = .ok (.ifCond .ge 7, 3) := by decide +kernel
theorem dX10_walk_13 : decode cX10_walk 13 = .ok (.iconst (-1), 1) := by decide +kernel
theorem dX10_walk_14 : decode cX10_walk 14 = .ok (.goto 7, 3) := by decide +kernel
theorem dX10_walk_17 : decode cX10_walk 17 = .ok (.aload_n 0, 1) := by decide +kernel
theorem dX10_walk_18 : decode cX10_walk 18 = .ok (.invokevirtual 109, 3) := by decide +kernel
theorem dX10_walk_21 : decode cX10_walk 21 = .ok (.istore_n 2, 1) := by decide +kernel
theorem dX10_walk_22 : decode cX10_walk 22 = .ok (.iconst 0, 1) := by decide +kernel
theorem dX10_walk_23 : decode cX10_walk 23 = .ok (.istore_n 3, 1) := by decide +kernel
theorem dX10_walk_24 : decode cX10_walk 24 = .ok (.iload_n 3, 1) := by decide +kernel
theorem dX10_walk_25 : decode cX10_walk 25 = .ok (.iload_n 1, 1) := by decide +kernel
theorem dX10_walk_26 : decode cX10_walk 26 = .ok (.if_icmp .ge 20, 3) := by decide +kernel
theorem dX10_walk_29 : decode cX10_walk 29 = .ok (.iload_n 2, 1) := by decide +kernel
theorem dX10_walk_30 : decode cX10_walk 30 = .ok (.iconst (-1), 1) := by decide +kernel
theorem dX10_walk_31 : decode cX10_walk 31 = .ok (.if_icmp .eq 15, 3) := by decide +kernel
theorem dX10_walk_34 : decode cX10_walk 34 = .ok (.aload_n 0, 1) := by decide +kernel
theorem dX10_walk_35 : decode cX10_walk 35 = .ok (.iload_n 2, 1) := by decide +kernel
theorem dX10_walk_36 : decode cX10_walk 36 = .ok (.invokevirtual 345, 3) := by decide +kernel
theorem dX10_walk_39 : decode cX10_walk 39 = .ok (.istore_n 2, 1) := by decide +kernel
theorem dX10_walk_40 : decode cX10_walk 40 = .ok (.iinc 3 1, 3) := by decide +kernel
theorem dX10_walk_43 : decode cX10_walk 43 = .ok (.goto (-19), 3) := by decide +kernel
theorem dX10_walk_46 : decode cX10_walk 46 = .ok (.iload_n 2, 1) := by decide +kernel
theorem dX10_walk_47 : decode cX10_walk 47 = .ok (.ireturn, 1) := by decide +kernel
theorem dX10_kindOf_0 : decode cX10_kindOf 0 = .ok (.aload_n 0, 1) := by decide +kernel
theorem dX10_kindOf_1 : decode cX10_kindOf 1 = .ok (.iload_n 1, 1) := by decide +kernel
theorem dX10_kindOf_2 : decode cX10_kindOf 2 = .ok (.invokevirtual 91, 3) := by decide +kernel
theorem dX10_kindOf_5 : decode cX10_kindOf 5 = .ok (.ifCond .ne 5, 3) := by decide +kernel
theorem dX10_kindOf_8 : decode cX10_kindOf 8 = .ok (.iconst 0, 1) := by decide +kernel
theorem dX10_kindOf_9 : decode cX10_kindOf 9 = .ok (.ireturn, 1) := by decide +kernel
theorem dX10_kindOf_10 : decode cX10_kindOf 10 = .ok (.aload_n 0, 1) := by decide +kernel
theorem dX10_kindOf_11 : decode cX10_kindOf 11 = .ok (.getfield 120, 3) := by decide +kernel
theorem dX10_kindOf_14 : decode cX10_kindOf 14 = .ok (.aload_n 0, 1) := by decide +kernel
theorem dX10_kindOf_15 : decode cX10_kindOf 15 = .ok (.iload_n 1, 1) := by decide +kernel
theorem dX10_kindOf_16 : decode cX10_kindOf 16 = .ok (.invokevirtual 95, 3) := by decide +kernel
theorem dX10_kindOf_19 : decode cX10_kindOf 19 = .ok (.invokestatic 99, 3) := by decide +kernel
theorem dX10_kindOf_22 : decode cX10_kindOf 22 = .ok (.ifCond .ne 5, 3) := by decide +kernel
theorem dX10_kindOf_25 : decode cX10_kindOf 25 = .ok (.iconst 1, 1) := by decide +kernel
theorem dX10_kindOf_26 : decode cX10_kindOf 26 = .ok (.ireturn, 1) := by decide +kernel
theorem dX10_kindOf_27 : decode cX10_kindOf 27 = .ok (.aload_n 0, 1) := by decide +kernel
theorem dX10_kindOf_28 : decode cX10_kindOf 28 = .ok (.iload_n 1, 1) := by decide +kernel
theorem dX10_kindOf_29 : decode cX10_kindOf 29 = .ok (.invokevirtual 282, 3) := by decide +kernel
theorem dX10_kindOf_32 : decode cX10_kindOf 32 = .ok (.ifCond .eq 7, 3) := by decide +kernel
theorem dX10_kindOf_35 : decode cX10_kindOf 35 = .ok (.iconst 2, 1) := by decide +kernel
theorem dX10_kindOf_36 : decode cX10_kindOf 36 = .ok (.goto 26, 3) := by decide +kernel
theorem dX10_kindOf_39 : decode cX10_kindOf 39 = .ok (.aload_n 0, 1) := by decide +kernel
theorem dX10_kindOf_40 : decode cX10_kindOf 40 = .ok (.getfield 38, 3) := by decide +kernel
theorem dX10_kindOf_43 : decode cX10_kindOf 43 = .ok (.aload_n 0, 1) := by decide +kernel
theorem dX10_kindOf_44 : decode cX10_kindOf 44 = .ok (.iload_n 1, 1) := by decide +kernel
theorem dX10_kindOf_45 : decode cX10_kindOf 45 = .ok (.invokevirtual 103, 3) := by decide +kernel
theorem dX10_kindOf_48 : decode cX10_kindOf 48 = .ok (.iaload, 1) := by decide +kernel
theorem dX10_kindOf_49 : decode cX10_kindOf 49 = .ok (.aload_n 0, 1) := by decide +kernel
theorem dX10_kindOf_50 : decode cX10_kindOf 50 = .ok (.iload_n 1, 1) := by decide +kernel
theorem dX10_kindOf_51 : decode cX10_kindOf 51 = .ok (.invokevirtual 95, 3) := by decide +kernel
theorem dX10_kindOf_54 : decode cX10_kindOf 54 = .ok (.if_icmp .ne 7, 3) := by decide +kernel
theorem dX10_kindOf_57 : decode cX10_kindOf 57 = .ok (.iconst 3, 1) := by decide +kernel
theorem dX10_kindOf_58 : decode cX10_kindOf 58 = .ok (.goto 4, 3) := by decide +kernel
theorem dX10_kindOf_61 : decode cX10_kindOf 61 = .ok (.iconst 4, 1) := by decide +kernel
theorem dX10_kindOf_62 : decode cX10_kindOf 62 = .ok (.ireturn, 1) := by decide +kernel
theorem dX10_isBridge_0 : decode cX10_isBridge 0 = .ok (.aload_n 0, 1) := by decide +kernel
theorem dX10_isBridge_1 : decode cX10_isBridge 1 = .ok (.iload_n 1, 1) := by decide +kernel
theorem dX10_isBridge_2 : decode cX10_isBridge 2 = .ok (.invokevirtual 91, 3) := by decide +kernel
theorem dX10_isBridge_5 : decode cX10_isBridge 5 = .ok (.ifCond .eq 39, 3) := by decide +kernel
theorem dX10_isBridge_8 : decode cX10_isBridge 8 = .ok (.aload_n 0, 1) := by decide +kernel
theorem dX10_isBridge_9 : decode cX10_isBridge 9 = .ok (.getfield 120, 3) := by decide +kernel
theorem dX10_isBridge_12 : decode cX10_isBridge 12 = .ok (.aload_n 0, 1) := by decide +kernel
theorem dX10_isBridge_13 : decode cX10_isBridge 13 = .ok (.iload_n 1, 1) := by decide +kernel
theorem dX10_isBridge_14 : decode cX10_isBridge 14 = .ok (.invokevirtual 95, 3) := by decide +kernel
theorem dX10_isBridge_17 : decode cX10_isBridge 17 = .ok (.invokestatic 99, 3) := by decide +kernel
theorem dX10_isBridge_20 : decode cX10_isBridge 20 = .ok (.ifCond .eq 24, 3) := by decide +kernel
theorem dX10_isBridge_23 : decode cX10_isBridge 23 = .ok (.aload_n 0, 1) := by decide +kernel
theorem dX10_isBridge_24 : decode cX10_isBridge 24 = .ok (.iconst 0, 1) := by decide +kernel
theorem dX10_isBridge_25 : decode cX10_isBridge 25 = .ok (.iload_n 1, 1) := by decide +kernel
theorem dX10_isBridge_26 : decode cX10_isBridge 26 = .ok (.invokevirtual 116, 3) := by decide +kernel
theorem dX10_isBridge_29 : decode cX10_isBridge 29 = .ok (.aload_n 0, 1) := by decide +kernel
theorem dX10_isBridge_30 : decode cX10_isBridge 30 = .ok (.iload_n 1, 1) := by decide +kernel
theorem dX10_isBridge_31 : decode cX10_isBridge 31 = .ok (.invokevirtual 103, 3) := by decide +kernel
theorem dX10_isBridge_34 : decode cX10_isBridge 34 = .ok (.invokestatic 99, 3) := by decide +kernel
theorem dX10_isBridge_37 : decode cX10_isBridge 37 = .ok (.ifCond .ne 7, 3) := by decide +kernel
theorem dX10_isBridge_40 : decode cX10_isBridge 40 = .ok (.iconst 1, 1) := by decide +kernel
theorem dX10_isBridge_41 : decode cX10_isBridge 41 = .ok (.goto 4, 3) := by decide +kernel
theorem dX10_isBridge_44 : decode cX10_isBridge 44 = .ok (.iconst 0, 1) := by decide +kernel
theorem dX10_isBridge_45 : decode cX10_isBridge 45 = .ok (.ireturn, 1) := by decide +kernel
theorem dX10_arc_0 : decode cX10_arc 0 = .ok (.aload_n 0, 1) := by decide +kernel
theorem dX10_arc_1 : decode cX10_arc 1 = .ok (.iconst 0, 1) := by decide +kernel
theorem dX10_arc_2 : decode cX10_arc 2 = .ok (.putfield 1, 3) := by decide +kernel
theorem dX10_arc_5 : decode cX10_arc 5 = .ok (.aload_n 0, 1) := by decide +kernel
theorem dX10_arc_6 : decode cX10_arc 6 = .ok (.invokevirtual 126, 3) := by decide +kernel
theorem dX10_arc_9 : decode cX10_arc 9 = .ok (.aload_n 0, 1) := by decide +kernel
theorem dX10_arc_10 : decode cX10_arc 10 = .ok (.aload_n 0, 1) := by decide +kernel
theorem dX10_arc_11 : decode cX10_arc 11 = .ok (.iload_n 1, 1) := by decide +kernel
theorem dX10_arc_12 : decode cX10_arc 12 = .ok (.invokevirtual 174, 3) := by decide +kernel
theorem dX10_arc_15 : decode cX10_arc 15 = .ok (.ifCond .ne 7, 3) := by decide +kernel
theorem dX10_arc_18 : decode cX10_arc 18 = .ok (.iconst 1, 1) := by decide +kernel
theorem dX10_arc_19 : decode cX10_arc 19 = .ok (.goto 4, 3) := by decide +kernel
theorem dX10_arc_22 : decode cX10_arc 22 = .ok (.iconst 0, 1) := by decide +kernel
theorem dX10_arc_23 : decode cX10_arc 23 = .ok (.iconst 1, 1) := by decide +kernel
theorem dX10_arc_24 : decode cX10_arc 24 = .ok (.invokevirtual 157, 3) := by decide +kernel
theorem dX10_arc_27 : decode cX10_arc 27 = .ok (.ifCond .ne 25, 3) := by decide +kernel
theorem dX10_arc_30 : decode cX10_arc 30 = .ok (.aload_n 0, 1) := by decide +kernel
theorem dX10_arc_31 : decode cX10_arc 31 = .ok (.iload_n 2, 1) := by decide +kernel
theorem dX10_arc_32 : decode cX10_arc 32 = .ok (.iconst 0, 1) := by decide +kernel
theorem dX10_arc_33 : decode cX10_arc 33 = .ok (.iconst 4, 1) := by decide +kernel
theorem dX10_arc_34 : decode cX10_arc 34 = .ok (.invokestatic 84, 3) := by decide +kernel
theorem dX10_arc_37 : decode cX10_arc 37 = .ok (.ifCond .ne 7, 3) := by decide +kernel
theorem dX10_arc_40 : decode cX10_arc 40 = .ok (.iconst 1, 1) := by decide +kernel
theorem dX10_arc_41 : decode cX10_arc 41 = .ok (.goto 4, 3) := by decide +kernel
theorem dX10_arc_44 : decode cX10_arc 44 = .ok (.iconst 0, 1) := by decide +kernel
theorem dX10_arc_45 : decode cX10_arc 45 = .ok (.iconst 2, 1) := by decide +kernel
theorem dX10_arc_46 : decode cX10_arc 46 = .ok (.invokevirtual 157, 3) := by decide +kernel
theorem dX10_arc_49 : decode cX10_arc 49 = .ok (.ifCond .eq 5, 3) := by decide +kernel
theorem dX10_arc_52 : decode cX10_arc 52 = .ok (.iconst 0, 1) := by decide +kernel
theorem dX10_arc_53 : decode cX10_arc 53 = .ok (.ireturn, 1) := by decide +kernel
theorem dX10_arc_54 : decode cX10_arc 54 = .ok (.iload_n 2, 1) := by decide +kernel
theorem dX10_arc_55 : decode cX10_arc 55 = .ok (.tableswitch 58 0 3 #[29, 35, 41, 52], 29) := by decide +kernel
theorem dX10_arc_84 : decode cX10_arc 84 = .ok (.aload_n 0, 1) := by decide +kernel
theorem dX10_arc_85 : decode cX10_arc 85 = .ok (.iload_n 1, 1) := by decide +kernel
theorem dX10_arc_86 : decode cX10_arc 86 = .ok (.invokevirtual 95, 3) := by decide +kernel
theorem dX10_arc_89 : decode cX10_arc 89 = .ok (.ireturn, 1) := by decide +kernel
theorem dX10_arc_90 : decode cX10_arc 90 = .ok (.aload_n 0, 1) := by decide +kernel
theorem dX10_arc_91 : decode cX10_arc 91 = .ok (.iload_n 1, 1) := by decide +kernel
theorem dX10_arc_92 : decode cX10_arc 92 = .ok (.invokevirtual 103, 3) := by decide +kernel
theorem dX10_arc_95 : decode cX10_arc 95 = .ok (.ireturn, 1) := by decide +kernel
theorem dX10_arc_96 : decode cX10_arc 96 = .ok (.aload_n 0, 1) := by decide +kernel
theorem dX10_arc_97 : decode cX10_arc 97 = .ok (.getfield 13, 3) := by decide +kernel
theorem dX10_arc_100 : decode cX10_arc 100 = .ok (.sipush 140, 3) := by decide +kernel
theorem dX10_arc_103 : decode cX10_arc 103 = .ok (.iload_n 1, 1) := by decide +kernel
theorem dX10_arc_104 : decode cX10_arc 104 = .ok (.iadd, 1) := by decide +kernel
theorem dX10_arc_105 : decode cX10_arc 105 = .ok (.iaload, 1) := by decide +kernel
theorem dX10_arc_106 : decode cX10_arc 106 = .ok (.ireturn, 1) := by decide +kernel
theorem dX10_arc_107 : decode cX10_arc 107 = .ok (.aload_n 0, 1) := by decide +kernel
theorem dX10_arc_108 : decode cX10_arc 108 = .ok (.iload_n 1, 1) := by decide +kernel
theorem dX10_arc_109 : decode cX10_arc 109 = .ok (.invokevirtual 348, 3) := by decide +kernel
theorem dX10_arc_112 : decode cX10_arc 112 = .ok (.ireturn, 1) := by decide +kernel
theorem dX10_arc_113 : decode cX10_arc 113 = .ok (.aload_n 0, 1) := by decide +kernel
theorem dX10_arc_114 : decode cX10_arc 114 = .ok (.iload_n 1, 1) := by decide +kernel
theorem dX10_arc_115 : decode cX10_arc 115 = .ok (.invokevirtual 351, 3) := by decide +kernel
theorem dX10_arc_118 : decode cX10_arc 118 = .ok (.ifCond .eq 7, 3) := by decide +kernel
theorem dX10_arc_121 : decode cX10_arc 121 = .ok (.iconst 1, 1) := by decide +kernel
theorem dX10_arc_122 : decode cX10_arc 122 = .ok (.goto 4, 3) := by decide +kernel
theorem dX10_arc_125 : decode cX10_arc 125 = .ok (.iconst 0, 1) := by decide +kernel
theorem dX10_arc_126 : decode cX10_arc 126 = .ok (.ireturn, 1) := by decide +kernel
theorem dX10_sealedBy_0 : decode cX10_sealedBy 0 = .ok (.aload_n 0, 1) := by decide +kernel
theorem dX10_sealedBy_1 : decode cX10_sealedBy 1 = .ok (.getfield 120, 3) := by decide +kernel
theorem dX10_sealedBy_4 : decode cX10_sealedBy 4 = .ok (.aload_n 0, 1) := by decide +kernel
theorem dX10_sealedBy_5 : decode cX10_sealedBy 5 = .ok (.iload_n 1, 1) := by decide +kernel
theorem dX10_sealedBy_6 : decode cX10_sealedBy 6 = .ok (.iconst (-1), 1) := by decide +kernel
theorem dX10_sealedBy_7 : decode cX10_sealedBy 7 = .ok (.invokevirtual 116, 3) := by decide +kernel
theorem dX10_sealedBy_10 : decode cX10_sealedBy 10 = .ok (.iconst (-1), 1) := by decide +kernel
theorem dX10_sealedBy_11 : decode cX10_sealedBy 11 = .ok (.ixor, 1) := by decide +kernel
theorem dX10_sealedBy_12 : decode cX10_sealedBy 12 = .ok (.iand, 1) := by decide +kernel
theorem dX10_sealedBy_13 : decode cX10_sealedBy 13 = .ok (.iload_n 1, 1) := by decide +kernel
theorem dX10_sealedBy_14 : decode cX10_sealedBy 14 = .ok (.iconst (-1), 1) := by decide +kernel
theorem dX10_sealedBy_15 : decode cX10_sealedBy 15 = .ok (.ixor, 1) := by decide +kernel
theorem dX10_sealedBy_16 : decode cX10_sealedBy 16 = .ok (.iand, 1) := by decide +kernel
theorem dX10_sealedBy_17 : decode cX10_sealedBy 17 = .ok (.ireturn, 1) := by decide +kernel
theorem dX10_without_0 : decode cX10_without 0 = .ok (.aload_n 0, 1) := by decide +kernel
theorem dX10_without_1 : decode cX10_without 1 = .ok (.iload_n 1, 1) := by decide +kernel
theorem dX10_without_2 : decode cX10_without 2 = .ok (.invokevirtual 303, 3) := by decide +kernel
theorem dX10_without_5 : decode cX10_without 5 = .ok (.ifCond .eq 7, 3) := by decide +kernel
theorem dX10_without_8 : decode cX10_without 8 = .ok (.iconst 0, 1) := by decide +kernel
theorem dX10_without_9 : decode cX10_without 9 = .ok (.goto 10, 3) := by decide +kernel
theorem dX10_without_12 : decode cX10_without 12 = .ok (.aload_n 0, 1) := by decide +kernel
theorem dX10_without_13 : decode cX10_without 13 = .ok (.iconst 1, 1) := by decide +kernel
theorem dX10_without_14 : decode cX10_without 14 = .ok (.iload_n 1, 1) := by decide +kernel
theorem dX10_without_15 : decode cX10_without 15 = .ok (.ishl, 1) := by decide +kernel
theorem dX10_without_16 : decode cX10_without 16 = .ok (.invokevirtual 354, 3) := by decide +kernel
theorem dX10_without_19 : decode cX10_without 19 = .ok (.ireturn, 1) := by decide +kernel
theorem dX10_seal_0 : decode cX10_seal 0 = .ok (.aload_n 0, 1) := by decide +kernel
theorem dX10_seal_1 : decode cX10_seal 1 = .ok (.iconst 0, 1) := by decide +kernel
theorem dX10_seal_2 : decode cX10_seal 2 = .ok (.putfield 1, 3) := by decide +kernel
theorem dX10_seal_5 : decode cX10_seal 5 = .ok (.aload_n 0, 1) := by decide +kernel
theorem dX10_seal_6 : decode cX10_seal 6 = .ok (.invokevirtual 126, 3) := by decide +kernel
theorem dX10_seal_9 : decode cX10_seal 9 = .ok (.aload_n 0, 1) := by decide +kernel
theorem dX10_seal_10 : decode cX10_seal 10 = .ok (.iload_n 1, 1) := by decide +kernel
theorem dX10_seal_11 : decode cX10_seal 11 = .ok (.ifCond .lt 12, 3) := by decide +kernel
theorem dX10_seal_14 : decode cX10_seal 14 = .ok (.iload_n 1, 1) := by decide +kernel
theorem dX10_seal_15 : decode cX10_seal 15 = .ok (.aload_n 0, 1) := by decide +kernel
theorem dX10_seal_16 : decode cX10_seal 16 = .ok (.invokevirtual 80, 3) := by decide +kernel
theorem dX10_seal_19 : decode cX10_seal 19 = .ok (.ishr, 1) := by decide +kernel
theorem dX10_seal_20 : decode cX10_seal 20 = .ok (.ifCond .eq 7, 3) := by decide +kernel
theorem dX10_seal_23 : decode cX10_seal 23 = .ok (.iconst 1, 1) := by decide +kernel
theorem dX10_seal_24 : decode cX10_seal 24 = .ok (.goto 4, 3) := by decide +kernel
theorem dX10_seal_27 : decode cX10_seal 27 = .ok (.iconst 0, 1) := by decide +kernel
theorem dX10_seal_28 : decode cX10_seal 28 = .ok (.iconst 1, 1) := by decide +kernel
theorem dX10_seal_29 : decode cX10_seal 29 = .ok (.invokevirtual 157, 3) := by decide +kernel
theorem dX10_seal_32 : decode cX10_seal 32 = .ok (.ifCond .eq 7, 3) := by decide +kernel
theorem dX10_seal_35 : decode cX10_seal 35 = .ok (.iconst 0, 1) := by decide +kernel
theorem dX10_seal_36 : decode cX10_seal 36 = .ok (.goto 8, 3) := by decide +kernel
theorem dX10_seal_39 : decode cX10_seal 39 = .ok (.aload_n 0, 1) := by decide +kernel
theorem dX10_seal_40 : decode cX10_seal 40 = .ok (.iload_n 1, 1) := by decide +kernel
theorem dX10_seal_41 : decode cX10_seal 41 = .ok (.invokevirtual 354, 3) := by decide +kernel
theorem dX10_seal_44 : decode cX10_seal 44 = .ok (.ireturn, 1) := by decide +kernel
theorem dX10_chainOf_0 : decode cX10_chainOf 0 = .ok (.aload_n 0, 1) := by decide +kernel
theorem dX10_chainOf_1 : decode cX10_chainOf 1 = .ok (.getfield 120, 3) := by decide +kernel
theorem dX10_chainOf_4 : decode cX10_chainOf 4 = .ok (.iload_n 1, 1) := by decide +kernel
theorem dX10_chainOf_5 : decode cX10_chainOf 5 = .ok (.invokestatic 99, 3) := by decide +kernel
theorem dX10_chainOf_8 : decode cX10_chainOf 8 = .ok (.ifCond .eq 17, 3) := by decide +kernel
theorem dX10_chainOf_11 : decode cX10_chainOf 11 = .ok (.iload_n 2, 1) := by decide +kernel
theorem dX10_chainOf_12 : decode cX10_chainOf 12 = .ok (.iconst 0, 1) := by decide +kernel
theorem dX10_chainOf_13 : decode cX10_chainOf 13 = .ok (.aload_n 0, 1) := by decide +kernel
theorem dX10_chainOf_14 : decode cX10_chainOf 14 = .ok (.getfield 35, 3) := by decide +kernel
theorem dX10_chainOf_17 : decode cX10_chainOf 17 = .ok (.iload_n 1, 1) := by decide +kernel
theorem dX10_chainOf_18 : decode cX10_chainOf 18 = .ok (.iaload, 1) := by decide +kernel
theorem dX10_chainOf_19 : decode cX10_chainOf 19 = .ok (.invokestatic 84, 3) := by decide +kernel
theorem dX10_chainOf_22 : decode cX10_chainOf 22 = .ok (.ifCond .ne 5, 3) := by decide +kernel
theorem dX10_chainOf_25 : decode cX10_chainOf 25 = .ok (.iconst (-1), 1) := by decide +kernel
theorem dX10_chainOf_26 : decode cX10_chainOf 26 = .ok (.ireturn, 1) := by decide +kernel
theorem dX10_chainOf_27 : decode cX10_chainOf 27 = .ok (.iload_n 1, 1) := by decide +kernel
theorem dX10_chainOf_28 : decode cX10_chainOf 28 = .ok (.istore_n 3, 1) := by decide +kernel
