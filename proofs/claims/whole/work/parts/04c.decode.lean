/-! the instructions, one by one -/
theorem d_MC_cellOf_0 : decode b_MC_cellOf 0 = .ok (.iload_n 0, 1) := by decide +kernel
theorem d_MC_cellOf_1 : decode b_MC_cellOf 1 = .ok (.iconst 4, 1) := by decide +kernel
theorem d_MC_cellOf_2 : decode b_MC_cellOf 2 = .ok (.imul, 1) := by decide +kernel
theorem d_MC_cellOf_3 : decode b_MC_cellOf 3 = .ok (.iload_n 1, 1) := by decide +kernel
theorem d_MC_cellOf_4 : decode b_MC_cellOf 4 = .ok (.iadd, 1) := by decide +kernel
theorem d_MC_cellOf_5 : decode b_MC_cellOf 5 = .ok (.ireturn, 1) := by decide +kernel
theorem d_MC_replay_0 : decode b_MC_replay 0 = .ok (.aload_n 0, 1) := by decide +kernel
theorem d_MC_replay_1 : decode b_MC_replay 1 = .ok (.getfield 28, 3) := by decide +kernel
theorem d_MC_replay_4 : decode b_MC_replay 4 = .ok (.iconst 0, 1) := by decide +kernel
theorem d_MC_replay_5 : decode b_MC_replay 5 = .ok (.invokevirtual 293, 3) := by decide +kernel
theorem d_MC_replay_8 : decode b_MC_replay 8 = .ok (.aload_n 0, 1) := by decide +kernel
theorem d_MC_replay_9 : decode b_MC_replay 9 = .ok (.getfield 28, 3) := by decide +kernel
theorem d_MC_replay_12 : decode b_MC_replay 12 = .ok (.invokevirtual 299, 3) := by decide +kernel
theorem d_MC_replay_15 : decode b_MC_replay 15 = .ok (.return_, 1) := by decide +kernel
theorem d_MC_feed_0 : decode b_MC_feed 0 = .ok (.aload_n 0, 1) := by decide +kernel
theorem d_MC_feed_1 : decode b_MC_feed 1 = .ok (.getfield 19, 3) := by decide +kernel
theorem d_MC_feed_4 : decode b_MC_feed 4 = .ok (.getfield 52, 3) := by decide +kernel
theorem d_MC_feed_7 : decode b_MC_feed 7 = .ok (.bipush 20, 2) := by decide +kernel
theorem d_MC_feed_9 : decode b_MC_feed 9 = .ok (.iadd, 1) := by decide +kernel
theorem d_MC_feed_10 : decode b_MC_feed 10 = .ok (.sipush 400, 3) := by decide +kernel
theorem d_MC_feed_13 : decode b_MC_feed 13 = .ok (.if_icmp .le 5, 3) := by decide +kernel
theorem d_MC_feed_16 : decode b_MC_feed 16 = .ok (.iconst (-1), 1) := by decide +kernel
theorem d_MC_feed_17 : decode b_MC_feed 17 = .ok (.ireturn, 1) := by decide +kernel
theorem d_MC_feed_18 : decode b_MC_feed 18 = .ok (.aload_n 0, 1) := by decide +kernel
theorem d_MC_feed_19 : decode b_MC_feed 19 = .ok (.getfield 19, 3) := by decide +kernel
theorem d_MC_feed_22 : decode b_MC_feed 22 = .ok (.iload_n 1, 1) := by decide +kernel
theorem d_MC_feed_23 : decode b_MC_feed 23 = .ok (.invokevirtual 55, 3) := by decide +kernel
theorem d_MC_feed_26 : decode b_MC_feed 26 = .ok (.aload_n 0, 1) := by decide +kernel
theorem d_MC_feed_27 : decode b_MC_feed 27 = .ok (.getfield 19, 3) := by decide +kernel
theorem d_MC_feed_30 : decode b_MC_feed 30 = .ok (.iload_n 2, 1) := by decide +kernel
theorem d_MC_feed_31 : decode b_MC_feed 31 = .ok (.invokevirtual 55, 3) := by decide +kernel
theorem d_MC_feed_34 : decode b_MC_feed 34 = .ok (.aload_n 0, 1) := by decide +kernel
theorem d_MC_feed_35 : decode b_MC_feed 35 = .ok (.getfield 19, 3) := by decide +kernel
theorem d_MC_feed_38 : decode b_MC_feed 38 = .ok (.iload_n 3, 1) := by decide +kernel
theorem d_MC_feed_39 : decode b_MC_feed 39 = .ok (.invokevirtual 55, 3) := by decide +kernel
theorem d_MC_feed_42 : decode b_MC_feed 42 = .ok (.aload_n 0, 1) := by decide +kernel
theorem d_MC_feed_43 : decode b_MC_feed 43 = .ok (.getfield 19, 3) := by decide +kernel
theorem d_MC_feed_46 : decode b_MC_feed 46 = .ok (.iload 4, 2) := by decide +kernel
theorem d_MC_feed_48 : decode b_MC_feed 48 = .ok (.invokevirtual 55, 3) := by decide +kernel
theorem d_MC_feed_51 : decode b_MC_feed 51 = .ok (.aload_n 0, 1) := by decide +kernel
theorem d_MC_feed_52 : decode b_MC_feed 52 = .ok (.getfield 19, 3) := by decide +kernel
theorem d_MC_feed_55 : decode b_MC_feed 55 = .ok (.iload 5, 2) := by decide +kernel
theorem d_MC_feed_57 : decode b_MC_feed 57 = .ok (.invokevirtual 55, 3) := by decide +kernel
theorem d_MC_feed_60 : decode b_MC_feed 60 = .ok (.aload_n 0, 1) := by decide +kernel
theorem d_MC_feed_61 : decode b_MC_feed 61 = .ok (.getfield 19, 3) := by decide +kernel
theorem d_MC_feed_64 : decode b_MC_feed 64 = .ok (.getfield 52, 3) := by decide +kernel
theorem d_MC_feed_67 : decode b_MC_feed 67 = .ok (.ireturn, 1) := by decide +kernel
theorem d_MC_end_0 : decode b_MC_end 0 = .ok (.iload_n 1, 1) := by decide +kernel
theorem d_MC_end_1 : decode b_MC_end 1 = .ok (.ifCond .lt 14, 3) := by decide +kernel
theorem d_MC_end_4 : decode b_MC_end 4 = .ok (.iload_n 1, 1) := by decide +kernel
theorem d_MC_end_5 : decode b_MC_end 5 = .ok (.aload_n 0, 1) := by decide +kernel
theorem d_MC_end_6 : decode b_MC_end 6 = .ok (.getfield 19, 3) := by decide +kernel
theorem d_MC_end_9 : decode b_MC_end 9 = .ok (.getfield 52, 3) := by decide +kernel
theorem d_MC_end_12 : decode b_MC_end 12 = .ok (.if_icmp .le 5, 3) := by decide +kernel
theorem d_MC_end_15 : decode b_MC_end 15 = .ok (.iconst (-1), 1) := by decide +kernel
theorem d_MC_end_16 : decode b_MC_end 16 = .ok (.ireturn, 1) := by decide +kernel
theorem d_MC_end_17 : decode b_MC_end 17 = .ok (.aload_n 0, 1) := by decide +kernel
theorem d_MC_end_18 : decode b_MC_end 18 = .ok (.getfield 19, 3) := by decide +kernel
theorem d_MC_end_21 : decode b_MC_end 21 = .ok (.iload_n 1, 1) := by decide +kernel
theorem d_MC_end_22 : decode b_MC_end 22 = .ok (.putfield 52, 3) := by decide +kernel
theorem d_MC_end_25 : decode b_MC_end 25 = .ok (.iload_n 1, 1) := by decide +kernel
theorem d_MC_end_26 : decode b_MC_end 26 = .ok (.ireturn, 1) := by decide +kernel
theorem d_MC_tell_0 : decode b_MC_tell 0 = .ok (.aload_n 0, 1) := by decide +kernel
theorem d_MC_tell_1 : decode b_MC_tell 1 = .ok (.getfield 19, 3) := by decide +kernel
theorem d_MC_tell_4 : decode b_MC_tell 4 = .ok (.invokevirtual 59, 3) := by decide +kernel
theorem d_MC_tell_7 : decode b_MC_tell 7 = .ok (.aload_n 0, 1) := by decide +kernel
theorem d_MC_tell_8 : decode b_MC_tell 8 = .ok (.getfield 19, 3) := by decide +kernel
theorem d_MC_tell_11 : decode b_MC_tell 11 = .ok (.iconst 0, 1) := by decide +kernel
theorem d_MC_tell_12 : decode b_MC_tell 12 = .ok (.putfield 52, 3) := by decide +kernel
theorem d_MC_tell_15 : decode b_MC_tell 15 = .ok (.aload_n 0, 1) := by decide +kernel
theorem d_MC_tell_16 : decode b_MC_tell 16 = .ok (.getfield 19, 3) := by decide +kernel
theorem d_MC_tell_19 : decode b_MC_tell 19 = .ok (.getfield 62, 3) := by decide +kernel
theorem d_MC_tell_22 : decode b_MC_tell 22 = .ok (.ifCond .eq 14, 3) := by decide +kernel
theorem d_MC_tell_25 : decode b_MC_tell 25 = .ok (.bipush (-2), 2) := by decide +kernel
theorem d_MC_tell_27 : decode b_MC_tell 27 = .ok (.aload_n 0, 1) := by decide +kernel
theorem d_MC_tell_28 : decode b_MC_tell 28 = .ok (.getfield 19, 3) := by decide +kernel
theorem d_MC_tell_31 : decode b_MC_tell 31 = .ok (.getfield 62, 3) := by decide +kernel
theorem d_MC_tell_34 : decode b_MC_tell 34 = .ok (.isub, 1) := by decide +kernel
theorem d_MC_tell_35 : decode b_MC_tell 35 = .ok (.ireturn, 1) := by decide +kernel
theorem d_MC_tell_36 : decode b_MC_tell 36 = .ok (.aload_n 0, 1) := by decide +kernel
theorem d_MC_tell_37 : decode b_MC_tell 37 = .ok (.getfield 10, 3) := by decide +kernel
theorem d_MC_tell_40 : decode b_MC_tell 40 = .ok (.aload_n 0, 1) := by decide +kernel
theorem d_MC_tell_41 : decode b_MC_tell 41 = .ok (.getfield 19, 3) := by decide +kernel
theorem d_MC_tell_44 : decode b_MC_tell 44 = .ok (.getfield 65, 3) := by decide +kernel
theorem d_MC_tell_47 : decode b_MC_tell 47 = .ok (.invokevirtual 68, 3) := by decide +kernel
theorem d_MC_tell_50 : decode b_MC_tell 50 = .ok (.aload_n 0, 1) := by decide +kernel
theorem d_MC_tell_51 : decode b_MC_tell 51 = .ok (.iconst 0, 1) := by decide +kernel
theorem d_MC_tell_52 : decode b_MC_tell 52 = .ok (.putfield 42, 3) := by decide +kernel
theorem d_MC_tell_55 : decode b_MC_tell 55 = .ok (.aload_n 0, 1) := by decide +kernel
theorem d_MC_tell_56 : decode b_MC_tell 56 = .ok (.invokevirtual 49, 3) := by decide +kernel
theorem d_MC_tell_59 : decode b_MC_tell 59 = .ok (.aload_n 0, 1) := by decide +kernel
theorem d_MC_tell_60 : decode b_MC_tell 60 = .ok (.getfield 10, 3) := by decide +kernel
theorem d_MC_tell_63 : decode b_MC_tell 63 = .ok (.getfield 71, 3) := by decide +kernel
theorem d_MC_tell_66 : decode b_MC_tell 66 = .ok (.ireturn, 1) := by decide +kernel
theorem d_MC_forgetOldest_0 : decode b_MC_forgetOldest 0 = .ok (.aload_n 0, 1) := by decide +kernel
theorem d_MC_forgetOldest_1 : decode b_MC_forgetOldest 1 = .ok (.getfield 35, 3) := by decide +kernel
theorem d_MC_forgetOldest_4 : decode b_MC_forgetOldest 4 = .ok (.iconst 0, 1) := by decide +kernel
theorem d_MC_forgetOldest_5 : decode b_MC_forgetOldest 5 = .ok (.aaload, 1) := by decide +kernel
theorem d_MC_forgetOldest_6 : decode b_MC_forgetOldest 6 = .ok (.astore_n 1, 1) := by decide +kernel
theorem d_MC_forgetOldest_7 : decode b_MC_forgetOldest 7 = .ok (.iconst 1, 1) := by decide +kernel
theorem d_MC_forgetOldest_8 : decode b_MC_forgetOldest 8 = .ok (.istore_n 2, 1) := by decide +kernel
theorem d_MC_forgetOldest_9 : decode b_MC_forgetOldest 9 = .ok (.iload_n 2, 1) := by decide +kernel
theorem d_MC_forgetOldest_10 : decode b_MC_forgetOldest 10 = .ok (.bipush 10, 2) := by decide +kernel
theorem d_MC_forgetOldest_12 : decode b_MC_forgetOldest 12 = .ok (.if_icmp .ge 23, 3) := by decide +kernel
theorem d_MC_forgetOldest_15 : decode b_MC_forgetOldest 15 = .ok (.aload_n 0, 1) := by decide +kernel
theorem d_MC_forgetOldest_16 : decode b_MC_forgetOldest 16 = .ok (.getfield 35, 3) := by decide +kernel
theorem d_MC_forgetOldest_19 : decode b_MC_forgetOldest 19 = .ok (.iload_n 2, 1) := by decide +kernel
theorem d_MC_forgetOldest_20 : decode b_MC_forgetOldest 20 = .ok (.iconst 1, 1) := by decide +kernel
theorem d_MC_forgetOldest_21 : decode b_MC_forgetOldest 21 = .ok (.isub, 1) := by decide +kernel
theorem d_MC_forgetOldest_22 : decode b_MC_forgetOldest 22 = .ok (.aload_n 0, 1) := by decide +kernel
theorem d_MC_forgetOldest_23 : decode b_MC_forgetOldest 23 = .ok (.getfield 35, 3) := by decide +kernel
theorem d_MC_forgetOldest_26 : decode b_MC_forgetOldest 26 = .ok (.iload_n 2, 1) := by decide +kernel
theorem d_MC_forgetOldest_27 : decode b_MC_forgetOldest 27 = .ok (.aaload, 1) := by decide +kernel
theorem d_MC_forgetOldest_28 : decode b_MC_forgetOldest 28 = .ok (.aastore, 1) := by decide +kernel
theorem d_MC_forgetOldest_29 : decode b_MC_forgetOldest 29 = .ok (.iinc 2 1, 3) := by decide +kernel
theorem d_MC_forgetOldest_32 : decode b_MC_forgetOldest 32 = .ok (.goto (-23), 3) := by decide +kernel
theorem d_MC_forgetOldest_35 : decode b_MC_forgetOldest 35 = .ok (.aload_n 0, 1) := by decide +kernel
theorem d_MC_forgetOldest_36 : decode b_MC_forgetOldest 36 = .ok (.getfield 35, 3) := by decide +kernel
theorem d_MC_forgetOldest_39 : decode b_MC_forgetOldest 39 = .ok (.bipush 9, 2) := by decide +kernel
theorem d_MC_forgetOldest_41 : decode b_MC_forgetOldest 41 = .ok (.aload_n 1, 1) := by decide +kernel
theorem d_MC_forgetOldest_42 : decode b_MC_forgetOldest 42 = .ok (.aastore, 1) := by decide +kernel
theorem d_MC_forgetOldest_43 : decode b_MC_forgetOldest 43 = .ok (.aload_n 0, 1) := by decide +kernel
theorem d_MC_forgetOldest_44 : decode b_MC_forgetOldest 44 = .ok (.bipush 9, 2) := by decide +kernel
theorem d_MC_forgetOldest_46 : decode b_MC_forgetOldest 46 = .ok (.putfield 42, 3) := by decide +kernel
theorem d_MC_forgetOldest_49 : decode b_MC_forgetOldest 49 = .ok (.return_, 1) := by decide +kernel
theorem d_MC_remember_0 : decode b_MC_remember 0 = .ok (.aload_n 0, 1) := by decide +kernel
theorem d_MC_remember_1 : decode b_MC_remember 1 = .ok (.getfield 42, 3) := by decide +kernel
theorem d_MC_remember_4 : decode b_MC_remember 4 = .ok (.bipush 10, 2) := by decide +kernel
theorem d_MC_remember_6 : decode b_MC_remember 6 = .ok (.if_icmp .lt 7, 3) := by decide +kernel
theorem d_MC_remember_9 : decode b_MC_remember 9 = .ok (.aload_n 0, 1) := by decide +kernel
theorem d_MC_remember_10 : decode b_MC_remember 10 = .ok (.invokevirtual 343, 3) := by decide +kernel
theorem d_MC_remember_13 : decode b_MC_remember 13 = .ok (.aload_n 0, 1) := by decide +kernel
theorem d_MC_remember_14 : decode b_MC_remember 14 = .ok (.getfield 35, 3) := by decide +kernel
theorem d_MC_remember_17 : decode b_MC_remember 17 = .ok (.aload_n 0, 1) := by decide +kernel
theorem d_MC_remember_18 : decode b_MC_remember 18 = .ok (.getfield 42, 3) := by decide +kernel
theorem d_MC_remember_21 : decode b_MC_remember 21 = .ok (.aaload, 1) := by decide +kernel
theorem d_MC_remember_22 : decode b_MC_remember 22 = .ok (.aload_n 0, 1) := by decide +kernel
theorem d_MC_remember_23 : decode b_MC_remember 23 = .ok (.getfield 10, 3) := by decide +kernel
theorem d_MC_remember_26 : decode b_MC_remember 26 = .ok (.invokevirtual 68, 3) := by decide +kernel
theorem d_MC_remember_29 : decode b_MC_remember 29 = .ok (.aload_n 0, 1) := by decide +kernel
theorem d_MC_remember_30 : decode b_MC_remember 30 = .ok (.dup, 1) := by decide +kernel
theorem d_MC_remember_31 : decode b_MC_remember 31 = .ok (.getfield 42, 3) := by decide +kernel
theorem d_MC_remember_34 : decode b_MC_remember 34 = .ok (.iconst 1, 1) := by decide +kernel
theorem d_MC_remember_35 : decode b_MC_remember 35 = .ok (.iadd, 1) := by decide +kernel
theorem d_MC_remember_36 : decode b_MC_remember 36 = .ok (.putfield 42, 3) := by decide +kernel
theorem d_MC_remember_39 : decode b_MC_remember 39 = .ok (.return_, 1) := by decide +kernel
theorem d_MC_settle_0 : decode b_MC_settle 0 = .ok (.aload_n 0, 1) := by decide +kernel
theorem d_MC_settle_1 : decode b_MC_settle 1 = .ok (.getfield 10, 3) := by decide +kernel
theorem d_MC_settle_4 : decode b_MC_settle 4 = .ok (.iload_n 1, 1) := by decide +kernel
theorem d_MC_settle_5 : decode b_MC_settle 5 = .ok (.iload_n 2, 1) := by decide +kernel
theorem d_MC_settle_6 : decode b_MC_settle 6 = .ok (.invokevirtual 74, 3) := by decide +kernel
theorem d_MC_settle_9 : decode b_MC_settle 9 = .ok (.ifCond .ne 5, 3) := by decide +kernel
theorem d_MC_settle_12 : decode b_MC_settle 12 = .ok (.iconst (-1), 1) := by decide +kernel
theorem d_MC_settle_13 : decode b_MC_settle 13 = .ok (.ireturn, 1) := by decide +kernel
theorem d_MC_settle_14 : decode b_MC_settle 14 = .ok (.aload_n 0, 1) := by decide +kernel
theorem d_MC_settle_15 : decode b_MC_settle 15 = .ok (.getfield 10, 3) := by decide +kernel
theorem d_MC_settle_18 : decode b_MC_settle 18 = .ok (.getfield 78, 3) := by decide +kernel
theorem d_MC_settle_21 : decode b_MC_settle 21 = .ok (.iload_n 1, 1) := by decide +kernel
theorem d_MC_settle_22 : decode b_MC_settle 22 = .ok (.iaload, 1) := by decide +kernel
theorem d_MC_settle_23 : decode b_MC_settle 23 = .ok (.istore_n 3, 1) := by decide +kernel
theorem d_MC_settle_24 : decode b_MC_settle 24 = .ok (.iload_n 3, 1) := by decide +kernel
theorem d_MC_settle_25 : decode b_MC_settle 25 = .ok (.iload_n 2, 1) := by decide +kernel
theorem d_MC_settle_26 : decode b_MC_settle 26 = .ok (.if_icmp .ne 6, 3) := by decide +kernel
theorem d_MC_settle_29 : decode b_MC_settle 29 = .ok (.bipush (-2), 2) := by decide +kernel
theorem d_MC_settle_31 : decode b_MC_settle 31 = .ok (.ireturn, 1) := by decide +kernel
theorem d_MC_settle_32 : decode b_MC_settle 32 = .ok (.aload_n 0, 1) := by decide +kernel
theorem d_MC_settle_33 : decode b_MC_settle 33 = .ok (.invokevirtual 82, 3) := by decide +kernel
theorem d_MC_settle_36 : decode b_MC_settle 36 = .ok (.aload_n 0, 1) := by decide +kernel
theorem d_MC_settle_37 : decode b_MC_settle 37 = .ok (.getfield 10, 3) := by decide +kernel
theorem d_MC_settle_40 : decode b_MC_settle 40 = .ok (.getfield 78, 3) := by decide +kernel
theorem d_MC_settle_43 : decode b_MC_settle 43 = .ok (.iload_n 1, 1) := by decide +kernel
theorem d_MC_settle_44 : decode b_MC_settle 44 = .ok (.iload_n 2, 1) := by decide +kernel
theorem d_MC_settle_45 : decode b_MC_settle 45 = .ok (.iastore, 1) := by decide +kernel
theorem d_MC_settle_46 : decode b_MC_settle 46 = .ok (.aload_n 0, 1) := by decide +kernel
theorem d_MC_settle_47 : decode b_MC_settle 47 = .ok (.invokevirtual 49, 3) := by decide +kernel
theorem d_MC_settle_50 : decode b_MC_settle 50 = .ok (.iload_n 3, 1) := by decide +kernel
theorem d_MC_settle_51 : decode b_MC_settle 51 = .ok (.ireturn, 1) := by decide +kernel
theorem d_MC_lies_0 : decode b_MC_lies 0 = .ok (.aload_n 0, 1) := by decide +kernel
theorem d_MC_lies_1 : decode b_MC_lies 1 = .ok (.getfield 10, 3) := by decide +kernel
theorem d_MC_lies_4 : decode b_MC_lies 4 = .ok (.iload_n 1, 1) := by decide +kernel
theorem d_MC_lies_5 : decode b_MC_lies 5 = .ok (.invokevirtual 85, 3) := by decide +kernel
theorem d_MC_lies_8 : decode b_MC_lies 8 = .ok (.ifCond .ne 5, 3) := by decide +kernel
theorem d_MC_lies_11 : decode b_MC_lies 11 = .ok (.iconst (-1), 1) := by decide +kernel
theorem d_MC_lies_12 : decode b_MC_lies 12 = .ok (.ireturn, 1) := by decide +kernel
theorem d_MC_lies_13 : decode b_MC_lies 13 = .ok (.aload_n 0, 1) := by decide +kernel
theorem d_MC_lies_14 : decode b_MC_lies 14 = .ok (.invokevirtual 82, 3) := by decide +kernel
theorem d_MC_lies_17 : decode b_MC_lies 17 = .ok (.aload_n 0, 1) := by decide +kernel
theorem d_MC_lies_18 : decode b_MC_lies 18 = .ok (.getfield 10, 3) := by decide +kernel
theorem d_MC_lies_21 : decode b_MC_lies 21 = .ok (.dup, 1) := by decide +kernel
theorem d_MC_lies_22 : decode b_MC_lies 22 = .ok (.getfield 89, 3) := by decide +kernel
theorem d_MC_lies_25 : decode b_MC_lies 25 = .ok (.iconst 1, 1) := by decide +kernel
theorem d_MC_lies_26 : decode b_MC_lies 26 = .ok (.iload_n 1, 1) := by decide +kernel
theorem d_MC_lies_27 : decode b_MC_lies 27 = .ok (.ishl, 1) := by decide +kernel
theorem d_MC_lies_28 : decode b_MC_lies 28 = .ok (.ixor, 1) := by decide +kernel
theorem d_MC_lies_29 : decode b_MC_lies 29 = .ok (.putfield 89, 3) := by decide +kernel
theorem d_MC_lies_32 : decode b_MC_lies 32 = .ok (.aload_n 0, 1) := by decide +kernel
theorem d_MC_lies_33 : decode b_MC_lies 33 = .ok (.invokevirtual 49, 3) := by decide +kernel
theorem d_MC_lies_36 : decode b_MC_lies 36 = .ok (.aload_n 0, 1) := by decide +kernel
theorem d_MC_lies_37 : decode b_MC_lies 37 = .ok (.getfield 10, 3) := by decide +kernel
theorem d_MC_lies_40 : decode b_MC_lies 40 = .ok (.getfield 89, 3) := by decide +kernel
theorem d_MC_lies_43 : decode b_MC_lies 43 = .ok (.iload_n 1, 1) := by decide +kernel
theorem d_MC_lies_44 : decode b_MC_lies 44 = .ok (.ishr, 1) := by decide +kernel
theorem d_MC_lies_45 : decode b_MC_lies 45 = .ok (.iconst 1, 1) := by decide +kernel
theorem d_MC_lies_46 : decode b_MC_lies 46 = .ok (.iand, 1) := by decide +kernel
theorem d_MC_lies_47 : decode b_MC_lies 47 = .ok (.ireturn, 1) := by decide +kernel
theorem d_MC_isValue_0 : decode b_MC_isValue 0 = .ok (.iload_n 0, 1) := by decide +kernel
theorem d_MC_isValue_1 : decode b_MC_isValue 1 = .ok (.ifCond .lt 12, 3) := by decide +kernel
theorem d_MC_isValue_4 : decode b_MC_isValue 4 = .ok (.iload_n 0, 1) := by decide +kernel
theorem d_MC_isValue_5 : decode b_MC_isValue 5 = .ok (.iconst 4, 1) := by decide +kernel
theorem d_MC_isValue_6 : decode b_MC_isValue 6 = .ok (.if_icmp .ge 7, 3) := by decide +kernel
theorem d_MC_isValue_9 : decode b_MC_isValue 9 = .ok (.iconst 1, 1) := by decide +kernel
theorem d_MC_isValue_10 : decode b_MC_isValue 10 = .ok (.goto 4, 3) := by decide +kernel
theorem d_MC_isValue_13 : decode b_MC_isValue 13 = .ok (.iconst 0, 1) := by decide +kernel
theorem d_MC_isValue_14 : decode b_MC_isValue 14 = .ok (.ireturn, 1) := by decide +kernel
theorem d_MC_plan_0 : decode b_MC_plan 0 = .ok (.iload 5, 2) := by decide +kernel
theorem d_MC_plan_2 : decode b_MC_plan 2 = .ok (.invokestatic 92, 3) := by decide +kernel
theorem d_MC_plan_5 : decode b_MC_plan 5 = .ok (.istore 6, 2) := by decide +kernel
theorem d_MC_plan_7 : decode b_MC_plan 7 = .ok (.aload_n 0, 1) := by decide +kernel
theorem d_MC_plan_8 : decode b_MC_plan 8 = .ok (.getfield 10, 3) := by decide +kernel
theorem d_MC_plan_11 : decode b_MC_plan 11 = .ok (.iload_n 1, 1) := by decide +kernel
theorem d_MC_plan_12 : decode b_MC_plan 12 = .ok (.iload_n 2, 1) := by decide +kernel
theorem d_MC_plan_13 : decode b_MC_plan 13 = .ok (.iload_n 3, 1) := by decide +kernel
theorem d_MC_plan_14 : decode b_MC_plan 14 = .ok (.invokevirtual 98, 3) := by decide +kernel
theorem d_MC_plan_17 : decode b_MC_plan 17 = .ok (.ifCond .eq 23, 3) := by decide +kernel
theorem d_MC_plan_20 : decode b_MC_plan 20 = .ok (.iload 4, 2) := by decide +kernel
theorem d_MC_plan_22 : decode b_MC_plan 22 = .ok (.invokestatic 102, 3) := by decide +kernel
theorem d_MC_plan_25 : decode b_MC_plan 25 = .ok (.ifCond .eq 15, 3) := by decide +kernel
theorem d_MC_plan_28 : decode b_MC_plan 28 = .ok (.aload_n 0, 1) := by decide +kernel
theorem d_MC_plan_29 : decode b_MC_plan 29 = .ok (.getfield 10, 3) := by decide +kernel
theorem d_MC_plan_32 : decode b_MC_plan 32 = .ok (.iload 6, 2) := by decide +kernel
theorem d_MC_plan_34 : decode b_MC_plan 34 = .ok (.invokevirtual 105, 3) := by decide +kernel
theorem d_MC_plan_37 : decode b_MC_plan 37 = .ok (.ifCond .ne 5, 3) := by decide +kernel
theorem d_MC_plan_40 : decode b_MC_plan 40 = .ok (.iconst (-1), 1) := by decide +kernel
theorem d_MC_plan_41 : decode b_MC_plan 41 = .ok (.ireturn, 1) := by decide +kernel
theorem d_MC_plan_42 : decode b_MC_plan 42 = .ok (.aload_n 0, 1) := by decide +kernel
theorem d_MC_plan_43 : decode b_MC_plan 43 = .ok (.getfield 10, 3) := by decide +kernel
theorem d_MC_plan_46 : decode b_MC_plan 46 = .ok (.getfield 108, 3) := by decide +kernel
theorem d_MC_plan_49 : decode b_MC_plan 49 = .ok (.bipush 16, 2) := by decide +kernel
theorem d_MC_plan_51 : decode b_MC_plan 51 = .ok (.if_icmp .lt 6, 3) := by decide +kernel
theorem d_MC_plan_54 : decode b_MC_plan 54 = .ok (.bipush (-3), 2) := by decide +kernel
theorem d_MC_plan_56 : decode b_MC_plan 56 = .ok (.ireturn, 1) := by decide +kernel
theorem d_MC_plan_57 : decode b_MC_plan 57 = .ok (.aload_n 0, 1) := by decide +kernel
theorem d_MC_plan_58 : decode b_MC_plan 58 = .ok (.invokevirtual 82, 3) := by decide +kernel
theorem d_MC_plan_61 : decode b_MC_plan 61 = .ok (.aload_n 0, 1) := by decide +kernel
theorem d_MC_plan_62 : decode b_MC_plan 62 = .ok (.getfield 10, 3) := by decide +kernel
theorem d_MC_plan_65 : decode b_MC_plan 65 = .ok (.iload_n 1, 1) := by decide +kernel
theorem d_MC_plan_66 : decode b_MC_plan 66 = .ok (.iload_n 2, 1) := by decide +kernel
theorem d_MC_plan_67 : decode b_MC_plan 67 = .ok (.iload_n 3, 1) := by decide +kernel
theorem d_MC_plan_68 : decode b_MC_plan 68 = .ok (.invokestatic 111, 3) := by decide +kernel
theorem d_MC_plan_71 : decode b_MC_plan 71 = .ok (.iload 4, 2) := by decide +kernel
theorem d_MC_plan_73 : decode b_MC_plan 73 = .ok (.iload 6, 2) := by decide +kernel
theorem d_MC_plan_75 : decode b_MC_plan 75 = .ok (.invokevirtual 117, 3) := by decide +kernel
theorem d_MC_plan_78 : decode b_MC_plan 78 = .ok (.aload_n 0, 1) := by decide +kernel
theorem d_MC_plan_79 : decode b_MC_plan 79 = .ok (.invokevirtual 49, 3) := by decide +kernel
theorem d_MC_plan_82 : decode b_MC_plan 82 = .ok (.aload_n 0, 1) := by decide +kernel
theorem d_MC_plan_83 : decode b_MC_plan 83 = .ok (.getfield 10, 3) := by decide +kernel
theorem d_MC_plan_86 : decode b_MC_plan 86 = .ok (.getfield 108, 3) := by decide +kernel
theorem d_MC_plan_89 : decode b_MC_plan 89 = .ok (.iconst 1, 1) := by decide +kernel
theorem d_MC_plan_90 : decode b_MC_plan 90 = .ok (.isub, 1) := by decide +kernel
theorem d_MC_plan_91 : decode b_MC_plan 91 = .ok (.ireturn, 1) := by decide +kernel
theorem d_MC_drop_0 : decode b_MC_drop 0 = .ok (.iload_n 2, 1) := by decide +kernel
theorem d_MC_drop_1 : decode b_MC_drop 1 = .ok (.ifCond .lt 15, 3) := by decide +kernel
theorem d_MC_drop_4 : decode b_MC_drop 4 = .ok (.iload_n 2, 1) := by decide +kernel
theorem d_MC_drop_5 : decode b_MC_drop 5 = .ok (.aload_n 0, 1) := by decide +kernel
theorem d_MC_drop_6 : decode b_MC_drop 6 = .ok (.getfield 10, 3) := by decide +kernel
theorem d_MC_drop_9 : decode b_MC_drop 9 = .ok (.iload_n 1, 1) := by decide +kernel
theorem d_MC_drop_10 : decode b_MC_drop 10 = .ok (.invokevirtual 121, 3) := by decide +kernel
theorem d_MC_drop_13 : decode b_MC_drop 13 = .ok (.if_icmp .lt 5, 3) := by decide +kernel
theorem d_MC_drop_16 : decode b_MC_drop 16 = .ok (.iconst (-1), 1) := by decide +kernel
theorem d_MC_drop_17 : decode b_MC_drop 17 = .ok (.ireturn, 1) := by decide +kernel
theorem d_MC_drop_18 : decode b_MC_drop 18 = .ok (.aload_n 0, 1) := by decide +kernel
theorem d_MC_drop_19 : decode b_MC_drop 19 = .ok (.invokevirtual 82, 3) := by decide +kernel
theorem d_MC_drop_22 : decode b_MC_drop 22 = .ok (.aload_n 0, 1) := by decide +kernel
theorem d_MC_drop_23 : decode b_MC_drop 23 = .ok (.getfield 10, 3) := by decide +kernel
theorem d_MC_drop_26 : decode b_MC_drop 26 = .ok (.iload_n 1, 1) := by decide +kernel
theorem d_MC_drop_27 : decode b_MC_drop 27 = .ok (.iload_n 2, 1) := by decide +kernel
theorem d_MC_drop_28 : decode b_MC_drop 28 = .ok (.invokevirtual 124, 3) := by decide +kernel
theorem d_MC_drop_31 : decode b_MC_drop 31 = .ok (.aload_n 0, 1) := by decide +kernel
theorem d_MC_drop_32 : decode b_MC_drop 32 = .ok (.invokevirtual 49, 3) := by decide +kernel
theorem d_MC_drop_35 : decode b_MC_drop 35 = .ok (.aload_n 0, 1) := by decide +kernel
theorem d_MC_drop_36 : decode b_MC_drop 36 = .ok (.getfield 10, 3) := by decide +kernel
theorem d_MC_drop_39 : decode b_MC_drop 39 = .ok (.iload_n 1, 1) := by decide +kernel
theorem d_MC_drop_40 : decode b_MC_drop 40 = .ok (.invokevirtual 121, 3) := by decide +kernel
theorem d_MC_drop_43 : decode b_MC_drop 43 = .ok (.ireturn, 1) := by decide +kernel
theorem d_MC_omit_0 : decode b_MC_omit 0 = .ok (.aload_n 0, 1) := by decide +kernel
theorem d_MC_omit_1 : decode b_MC_omit 1 = .ok (.getfield 10, 3) := by decide +kernel
theorem d_MC_omit_4 : decode b_MC_omit 4 = .ok (.iload_n 1, 1) := by decide +kernel
theorem d_MC_omit_5 : decode b_MC_omit 5 = .ok (.iload_n 2, 1) := by decide +kernel
theorem d_MC_omit_6 : decode b_MC_omit 6 = .ok (.iload_n 3, 1) := by decide +kernel
theorem d_MC_omit_7 : decode b_MC_omit 7 = .ok (.invokevirtual 98, 3) := by decide +kernel
theorem d_MC_omit_10 : decode b_MC_omit 10 = .ok (.ifCond .ne 5, 3) := by decide +kernel
theorem d_MC_omit_13 : decode b_MC_omit 13 = .ok (.iconst (-1), 1) := by decide +kernel
theorem d_MC_omit_14 : decode b_MC_omit 14 = .ok (.ireturn, 1) := by decide +kernel
theorem d_MC_omit_15 : decode b_MC_omit 15 = .ok (.iload_n 1, 1) := by decide +kernel
theorem d_MC_omit_16 : decode b_MC_omit 16 = .ok (.iload_n 2, 1) := by decide +kernel
theorem d_MC_omit_17 : decode b_MC_omit 17 = .ok (.iload_n 3, 1) := by decide +kernel
theorem d_MC_omit_18 : decode b_MC_omit 18 = .ok (.invokestatic 111, 3) := by decide +kernel
theorem d_MC_omit_21 : decode b_MC_omit 21 = .ok (.istore 4, 2) := by decide +kernel
theorem d_MC_omit_23 : decode b_MC_omit 23 = .ok (.aload_n 0, 1) := by decide +kernel
theorem d_MC_omit_24 : decode b_MC_omit 24 = .ok (.getfield 10, 3) := by decide +kernel
theorem d_MC_omit_27 : decode b_MC_omit 27 = .ok (.iload 4, 2) := by decide +kernel
theorem d_MC_omit_29 : decode b_MC_omit 29 = .ok (.invokevirtual 128, 3) := by decide +kernel
theorem d_MC_omit_32 : decode b_MC_omit 32 = .ok (.ifCond .eq 6, 3) := by decide +kernel
theorem d_MC_omit_35 : decode b_MC_omit 35 = .ok (.bipush (-2), 2) := by decide +kernel
theorem d_MC_omit_37 : decode b_MC_omit 37 = .ok (.ireturn, 1) := by decide +kernel
theorem d_MC_omit_38 : decode b_MC_omit 38 = .ok (.aload_n 0, 1) := by decide +kernel
theorem d_MC_omit_39 : decode b_MC_omit 39 = .ok (.getfield 10, 3) := by decide +kernel
theorem d_MC_omit_42 : decode b_MC_omit 42 = .ok (.getfield 131, 3) := by decide +kernel
theorem d_MC_omit_45 : decode b_MC_omit 45 = .ok (.bipush 12, 2) := by decide +kernel
theorem d_MC_omit_47 : decode b_MC_omit 47 = .ok (.if_icmp .lt 6, 3) := by decide +kernel
theorem d_MC_omit_50 : decode b_MC_omit 50 = .ok (.bipush (-3), 2) := by decide +kernel
theorem d_MC_omit_52 : decode b_MC_omit 52 = .ok (.ireturn, 1) := by decide +kernel
theorem d_MC_omit_53 : decode b_MC_omit 53 = .ok (.aload_n 0, 1) := by decide +kernel
theorem d_MC_omit_54 : decode b_MC_omit 54 = .ok (.invokevirtual 82, 3) := by decide +kernel
theorem d_MC_omit_57 : decode b_MC_omit 57 = .ok (.aload_n 0, 1) := by decide +kernel
theorem d_MC_omit_58 : decode b_MC_omit 58 = .ok (.getfield 10, 3) := by decide +kernel
theorem d_MC_omit_61 : decode b_MC_omit 61 = .ok (.iload 4, 2) := by decide +kernel
theorem d_MC_omit_63 : decode b_MC_omit 63 = .ok (.invokevirtual 134, 3) := by decide +kernel
theorem d_MC_omit_66 : decode b_MC_omit 66 = .ok (.aload_n 0, 1) := by decide +kernel
theorem d_MC_omit_67 : decode b_MC_omit 67 = .ok (.invokevirtual 49, 3) := by decide +kernel
theorem d_MC_omit_70 : decode b_MC_omit 70 = .ok (.aload_n 0, 1) := by decide +kernel
theorem d_MC_omit_71 : decode b_MC_omit 71 = .ok (.getfield 10, 3) := by decide +kernel
theorem d_MC_omit_74 : decode b_MC_omit 74 = .ok (.getfield 131, 3) := by decide +kernel
theorem d_MC_omit_77 : decode b_MC_omit 77 = .ok (.iconst 1, 1) := by decide +kernel
theorem d_MC_omit_78 : decode b_MC_omit 78 = .ok (.isub, 1) := by decide +kernel
theorem d_MC_omit_79 : decode b_MC_omit 79 = .ok (.ireturn, 1) := by decide +kernel
theorem d_MC_late_0 : decode b_MC_late 0 = .ok (.aload_n 0, 1) := by decide +kernel
theorem d_MC_late_1 : decode b_MC_late 1 = .ok (.getfield 10, 3) := by decide +kernel
theorem d_MC_late_4 : decode b_MC_late 4 = .ok (.iload_n 1, 1) := by decide +kernel
theorem d_MC_late_5 : decode b_MC_late 5 = .ok (.iload_n 2, 1) := by decide +kernel
theorem d_MC_late_6 : decode b_MC_late 6 = .ok (.iload_n 3, 1) := by decide +kernel
theorem d_MC_late_7 : decode b_MC_late 7 = .ok (.invokevirtual 98, 3) := by decide +kernel
theorem d_MC_late_10 : decode b_MC_late 10 = .ok (.ifCond .eq 16, 3) := by decide +kernel
theorem d_MC_late_13 : decode b_MC_late 13 = .ok (.iload 4, 2) := by decide +kernel
theorem d_MC_late_15 : decode b_MC_late 15 = .ok (.iconst 1, 1) := by decide +kernel
theorem d_MC_late_16 : decode b_MC_late 16 = .ok (.if_icmp .lt 10, 3) := by decide +kernel
theorem d_MC_late_19 : decode b_MC_late 19 = .ok (.iload 4, 2) := by decide +kernel
theorem d_MC_late_21 : decode b_MC_late 21 = .ok (.bipush 7, 2) := by decide +kernel
theorem d_MC_late_23 : decode b_MC_late 23 = .ok (.if_icmp .le 5, 3) := by decide +kernel
theorem d_MC_late_26 : decode b_MC_late 26 = .ok (.iconst (-1), 1) := by decide +kernel
theorem d_MC_late_27 : decode b_MC_late 27 = .ok (.ireturn, 1) := by decide +kernel
theorem d_MC_late_28 : decode b_MC_late 28 = .ok (.iload_n 1, 1) := by decide +kernel
theorem d_MC_late_29 : decode b_MC_late 29 = .ok (.iload_n 2, 1) := by decide +kernel
theorem d_MC_late_30 : decode b_MC_late 30 = .ok (.iload_n 3, 1) := by decide +kernel
theorem d_MC_late_31 : decode b_MC_late 31 = .ok (.invokestatic 111, 3) := by decide +kernel
theorem d_MC_late_34 : decode b_MC_late 34 = .ok (.istore 5, 2) := by decide +kernel
theorem d_MC_late_36 : decode b_MC_late 36 = .ok (.aload_n 0, 1) := by decide +kernel
theorem d_MC_late_37 : decode b_MC_late 37 = .ok (.getfield 10, 3) := by decide +kernel
theorem d_MC_late_40 : decode b_MC_late 40 = .ok (.iload 5, 2) := by decide +kernel
theorem d_MC_late_42 : decode b_MC_late 42 = .ok (.invokevirtual 137, 3) := by decide +kernel
theorem d_MC_late_45 : decode b_MC_late 45 = .ok (.ifCond .eq 6, 3) := by decide +kernel
theorem d_MC_late_48 : decode b_MC_late 48 = .ok (.bipush (-2), 2) := by decide +kernel
theorem d_MC_late_50 : decode b_MC_late 50 = .ok (.ireturn, 1) := by decide +kernel
theorem d_MC_late_51 : decode b_MC_late 51 = .ok (.aload_n 0, 1) := by decide +kernel
theorem d_MC_late_52 : decode b_MC_late 52 = .ok (.getfield 10, 3) := by decide +kernel
theorem d_MC_late_55 : decode b_MC_late 55 = .ok (.getfield 140, 3) := by decide +kernel
theorem d_MC_late_58 : decode b_MC_late 58 = .ok (.bipush 12, 2) := by decide +kernel
theorem d_MC_late_60 : decode b_MC_late 60 = .ok (.if_icmp .lt 6, 3) := by decide +kernel
theorem d_MC_late_63 : decode b_MC_late 63 = .ok (.bipush (-3), 2) := by decide +kernel
theorem d_MC_late_65 : decode b_MC_late 65 = .ok (.ireturn, 1) := by decide +kernel
theorem d_MC_late_66 : decode b_MC_late 66 = .ok (.aload_n 0, 1) := by decide +kernel
theorem d_MC_late_67 : decode b_MC_late 67 = .ok (.invokevirtual 82, 3) := by decide +kernel
theorem d_MC_late_70 : decode b_MC_late 70 = .ok (.aload_n 0, 1) := by decide +kernel
theorem d_MC_late_71 : decode b_MC_late 71 = .ok (.getfield 10, 3) := by decide +kernel
theorem d_MC_late_74 : decode b_MC_late 74 = .ok (.iload 5, 2) := by decide +kernel
theorem d_MC_late_76 : decode b_MC_late 76 = .ok (.iload 4, 2) := by decide +kernel
theorem d_MC_late_78 : decode b_MC_late 78 = .ok (.invokevirtual 143, 3) := by decide +kernel
theorem d_MC_late_81 : decode b_MC_late 81 = .ok (.aload_n 0, 1) := by decide +kernel
theorem d_MC_late_82 : decode b_MC_late 82 = .ok (.invokevirtual 49, 3) := by decide +kernel
theorem d_MC_late_85 : decode b_MC_late 85 = .ok (.aload_n 0, 1) := by decide +kernel
theorem d_MC_late_86 : decode b_MC_late 86 = .ok (.getfield 10, 3) := by decide +kernel
theorem d_MC_late_89 : decode b_MC_late 89 = .ok (.getfield 140, 3) := by decide +kernel
theorem d_MC_late_92 : decode b_MC_late 92 = .ok (.iconst 1, 1) := by decide +kernel
theorem d_MC_late_93 : decode b_MC_late 93 = .ok (.isub, 1) := by decide +kernel
theorem d_MC_late_94 : decode b_MC_late 94 = .ok (.ireturn, 1) := by decide +kernel
theorem d_MC_leastOf_0 : decode b_MC_leastOf 0 = .ok (.iconst 0, 1) := by decide +kernel
theorem d_MC_leastOf_1 : decode b_MC_leastOf 1 = .ok (.istore_n 1, 1) := by decide +kernel
theorem d_MC_leastOf_2 : decode b_MC_leastOf 2 = .ok (.iload_n 1, 1) := by decide +kernel
theorem d_MC_leastOf_3 : decode b_MC_leastOf 3 = .ok (.bipush 8, 2) := by decide +kernel
theorem d_MC_leastOf_5 : decode b_MC_leastOf 5 = .ok (.if_icmp .ge 19, 3) := by decide +kernel
theorem d_MC_leastOf_8 : decode b_MC_leastOf 8 = .ok (.iload_n 0, 1) := by decide +kernel
theorem d_MC_leastOf_9 : decode b_MC_leastOf 9 = .ok (.iload_n 1, 1) := by decide +kernel
theorem d_MC_leastOf_10 : decode b_MC_leastOf 10 = .ok (.ishr, 1) := by decide +kernel
theorem d_MC_leastOf_11 : decode b_MC_leastOf 11 = .ok (.iconst 1, 1) := by decide +kernel
theorem d_MC_leastOf_12 : decode b_MC_leastOf 12 = .ok (.iand, 1) := by decide +kernel
theorem d_MC_leastOf_13 : decode b_MC_leastOf 13 = .ok (.ifCond .eq 5, 3) := by decide +kernel
theorem d_MC_leastOf_16 : decode b_MC_leastOf 16 = .ok (.iload_n 1, 1) := by decide +kernel
theorem d_MC_leastOf_17 : decode b_MC_leastOf 17 = .ok (.ireturn, 1) := by decide +kernel
theorem d_MC_leastOf_18 : decode b_MC_leastOf 18 = .ok (.iinc 1 1, 3) := by decide +kernel
theorem d_MC_leastOf_21 : decode b_MC_leastOf 21 = .ok (.goto (-19), 3) := by decide +kernel
theorem d_MC_leastOf_24 : decode b_MC_leastOf 24 = .ok (.iconst 0, 1) := by decide +kernel
theorem d_MC_leastOf_25 : decode b_MC_leastOf 25 = .ok (.ireturn, 1) := by decide +kernel
theorem d_MC_attack_0 : decode b_MC_attack 0 = .ok (.aload_n 0, 1) := by decide +kernel
theorem d_MC_attack_1 : decode b_MC_attack 1 = .ok (.getfield 10, 3) := by decide +kernel
theorem d_MC_attack_4 : decode b_MC_attack 4 = .ok (.getfield 71, 3) := by decide +kernel
theorem d_MC_attack_7 : decode b_MC_attack 7 = .ok (.ifCond .ne 5, 3) := by decide +kernel
theorem d_MC_attack_10 : decode b_MC_attack 10 = .ok (.iconst (-1), 1) := by decide +kernel
theorem d_MC_attack_11 : decode b_MC_attack 11 = .ok (.ireturn, 1) := by decide +kernel
theorem d_MC_attack_12 : decode b_MC_attack 12 = .ok (.aload_n 0, 1) := by decide +kernel
theorem d_MC_attack_13 : decode b_MC_attack 13 = .ok (.getfield 10, 3) := by decide +kernel
theorem d_MC_attack_16 : decode b_MC_attack 16 = .ok (.getfield 78, 3) := by decide +kernel
theorem d_MC_attack_19 : decode b_MC_attack 19 = .ok (.iconst 2, 1) := by decide +kernel
theorem d_MC_attack_20 : decode b_MC_attack 20 = .ok (.iaload, 1) := by decide +kernel
theorem d_MC_attack_21 : decode b_MC_attack 21 = .ok (.istore_n 1, 1) := by decide +kernel
theorem d_MC_attack_22 : decode b_MC_attack 22 = .ok (.aload_n 0, 1) := by decide +kernel
theorem d_MC_attack_23 : decode b_MC_attack 23 = .ok (.getfield 10, 3) := by decide +kernel
theorem d_MC_attack_26 : decode b_MC_attack 26 = .ok (.getfield 89, 3) := by decide +kernel
theorem d_MC_attack_29 : decode b_MC_attack 29 = .ok (.invokestatic 146, 3) := by decide +kernel
theorem d_MC_attack_32 : decode b_MC_attack 32 = .ok (.iload_n 1, 1) := by decide +kernel
theorem d_MC_attack_33 : decode b_MC_attack 33 = .ok (.if_icmp .lt 21, 3) := by decide +kernel
theorem d_MC_attack_36 : decode b_MC_attack 36 = .ok (.aload_n 0, 1) := by decide +kernel
theorem d_MC_attack_37 : decode b_MC_attack 37 = .ok (.getfield 10, 3) := by decide +kernel
theorem d_MC_attack_40 : decode b_MC_attack 40 = .ok (.invokevirtual 151, 3) := by decide +kernel
theorem d_MC_attack_43 : decode b_MC_attack 43 = .ok (.invokestatic 146, 3) := by decide +kernel
theorem d_MC_attack_46 : decode b_MC_attack 46 = .ok (.iconst 2, 1) := by decide +kernel
theorem d_MC_attack_47 : decode b_MC_attack 47 = .ok (.if_icmp .lt 7, 3) := by decide +kernel
theorem d_MC_attack_50 : decode b_MC_attack 50 = .ok (.iconst 1, 1) := by decide +kernel
theorem d_MC_attack_51 : decode b_MC_attack 51 = .ok (.goto 4, 3) := by decide +kernel
theorem d_MC_attack_54 : decode b_MC_attack 54 = .ok (.iconst 0, 1) := by decide +kernel
theorem d_MC_attack_55 : decode b_MC_attack 55 = .ok (.istore_n 2, 1) := by decide +kernel
theorem d_MC_attack_56 : decode b_MC_attack 56 = .ok (.iload_n 2, 1) := by decide +kernel
theorem d_MC_attack_57 : decode b_MC_attack 57 = .ok (.ifCond .eq 22, 3) := by decide +kernel
theorem d_MC_attack_60 : decode b_MC_attack 60 = .ok (.aload_n 0, 1) := by decide +kernel
theorem d_MC_attack_61 : decode b_MC_attack 61 = .ok (.getfield 10, 3) := by decide +kernel
theorem d_MC_attack_64 : decode b_MC_attack 64 = .ok (.aload_n 0, 1) := by decide +kernel
theorem d_MC_attack_65 : decode b_MC_attack 65 = .ok (.getfield 10, 3) := by decide +kernel
theorem d_MC_attack_68 : decode b_MC_attack 68 = .ok (.getfield 78, 3) := by decide +kernel
theorem d_MC_attack_71 : decode b_MC_attack 71 = .ok (.iconst 0, 1) := by decide +kernel
theorem d_MC_attack_72 : decode b_MC_attack 72 = .ok (.iaload, 1) := by decide +kernel
theorem d_MC_attack_73 : decode b_MC_attack 73 = .ok (.invokevirtual 155, 3) := by decide +kernel
theorem d_MC_attack_76 : decode b_MC_attack 76 = .ok (.ifCond .ne 6, 3) := by decide +kernel
theorem d_MC_attack_79 : decode b_MC_attack 79 = .ok (.bipush (-2), 2) := by decide +kernel
theorem d_MC_attack_81 : decode b_MC_attack 81 = .ok (.ireturn, 1) := by decide +kernel
theorem d_MC_attack_82 : decode b_MC_attack 82 = .ok (.aload_n 0, 1) := by decide +kernel
theorem d_MC_attack_83 : decode b_MC_attack 83 = .ok (.invokevirtual 82, 3) := by decide +kernel
theorem d_MC_attack_86 : decode b_MC_attack 86 = .ok (.aload_n 0, 1) := by decide +kernel
theorem d_MC_attack_87 : decode b_MC_attack 87 = .ok (.getfield 10, 3) := by decide +kernel
theorem d_MC_attack_90 : decode b_MC_attack 90 = .ok (.iload_n 1, 1) := by decide +kernel
theorem d_MC_attack_91 : decode b_MC_attack 91 = .ok (.invokevirtual 158, 3) := by decide +kernel
theorem d_MC_attack_94 : decode b_MC_attack 94 = .ok (.istore_n 3, 1) := by decide +kernel
theorem d_MC_attack_95 : decode b_MC_attack 95 = .ok (.iload_n 3, 1) := by decide +kernel
theorem d_MC_attack_96 : decode b_MC_attack 96 = .ok (.iload_n 1, 1) := by decide +kernel
theorem d_MC_attack_97 : decode b_MC_attack 97 = .ok (.iconst 1, 1) := by decide +kernel
theorem d_MC_attack_98 : decode b_MC_attack 98 = .ok (.isub, 1) := by decide +kernel
theorem d_MC_attack_99 : decode b_MC_attack 99 = .ok (.invokestatic 161, 3) := by decide +kernel
theorem d_MC_attack_102 : decode b_MC_attack 102 = .ok (.istore 4, 2) := by decide +kernel
theorem d_MC_attack_104 : decode b_MC_attack 104 = .ok (.iload_n 1, 1) := by decide +kernel
theorem d_MC_attack_105 : decode b_MC_attack 105 = .ok (.iload 4, 2) := by decide +kernel
theorem d_MC_attack_107 : decode b_MC_attack 107 = .ok (.aload_n 0, 1) := by decide +kernel
theorem d_MC_attack_108 : decode b_MC_attack 108 = .ok (.getfield 10, 3) := by decide +kernel
theorem d_MC_attack_111 : decode b_MC_attack 111 = .ok (.invokevirtual 151, 3) := by decide +kernel
theorem d_MC_attack_114 : decode b_MC_attack 114 = .ok (.invokestatic 165, 3) := by decide +kernel
theorem d_MC_attack_117 : decode b_MC_attack 117 = .ok (.invokestatic 111, 3) := by decide +kernel
theorem d_MC_attack_120 : decode b_MC_attack 120 = .ok (.istore 5, 2) := by decide +kernel
theorem d_MC_attack_122 : decode b_MC_attack 122 = .ok (.aload_n 0, 1) := by decide +kernel
theorem d_MC_attack_123 : decode b_MC_attack 123 = .ok (.getfield 10, 3) := by decide +kernel
theorem d_MC_attack_126 : decode b_MC_attack 126 = .ok (.iconst 0, 1) := by decide +kernel
theorem d_MC_attack_127 : decode b_MC_attack 127 = .ok (.putfield 108, 3) := by decide +kernel
theorem d_MC_attack_130 : decode b_MC_attack 130 = .ok (.aload_n 0, 1) := by decide +kernel
theorem d_MC_attack_131 : decode b_MC_attack 131 = .ok (.getfield 10, 3) := by decide +kernel
theorem d_MC_attack_134 : decode b_MC_attack 134 = .ok (.iload 5, 2) := by decide +kernel
theorem d_MC_attack_136 : decode b_MC_attack 136 = .ok (.aload_n 0, 1) := by decide +kernel
theorem d_MC_attack_137 : decode b_MC_attack 137 = .ok (.getfield 10, 3) := by decide +kernel
theorem d_MC_attack_140 : decode b_MC_attack 140 = .ok (.getfield 78, 3) := by decide +kernel
theorem d_MC_attack_143 : decode b_MC_attack 143 = .ok (.iconst 3, 1) := by decide +kernel
theorem d_MC_attack_144 : decode b_MC_attack 144 = .ok (.iaload, 1) := by decide +kernel
theorem d_MC_attack_145 : decode b_MC_attack 145 = .ok (.iconst 1, 1) := by decide +kernel
theorem d_MC_attack_146 : decode b_MC_attack 146 = .ok (.iadd, 1) := by decide +kernel
theorem d_MC_attack_147 : decode b_MC_attack 147 = .ok (.iconst 4, 1) := by decide +kernel
theorem d_MC_attack_148 : decode b_MC_attack 148 = .ok (.irem, 1) := by decide +kernel
theorem d_MC_attack_149 : decode b_MC_attack 149 = .ok (.iload_n 3, 1) := by decide +kernel
theorem d_MC_attack_150 : decode b_MC_attack 150 = .ok (.invokevirtual 117, 3) := by decide +kernel
theorem d_MC_attack_153 : decode b_MC_attack 153 = .ok (.aload_n 0, 1) := by decide +kernel
theorem d_MC_attack_154 : decode b_MC_attack 154 = .ok (.invokevirtual 49, 3) := by decide +kernel
theorem d_MC_attack_157 : decode b_MC_attack 157 = .ok (.iload_n 3, 1) := by decide +kernel
theorem d_MC_attack_158 : decode b_MC_attack 158 = .ok (.invokestatic 168, 3) := by decide +kernel
theorem d_MC_attack_161 : decode b_MC_attack 161 = .ok (.ireturn, 1) := by decide +kernel
theorem d_MC_swapped_0 : decode b_MC_swapped 0 = .ok (.iload_n 0, 1) := by decide +kernel
theorem d_MC_swapped_1 : decode b_MC_swapped 1 = .ok (.iload_n 1, 1) := by decide +kernel
theorem d_MC_swapped_2 : decode b_MC_swapped 2 = .ok (.if_icmp .ne 5, 3) := by decide +kernel
theorem d_MC_swapped_5 : decode b_MC_swapped 5 = .ok (.iload_n 2, 1) := by decide +kernel
theorem d_MC_swapped_6 : decode b_MC_swapped 6 = .ok (.ireturn, 1) := by decide +kernel
theorem d_MC_swapped_7 : decode b_MC_swapped 7 = .ok (.iload_n 0, 1) := by decide +kernel
theorem d_MC_swapped_8 : decode b_MC_swapped 8 = .ok (.iload_n 2, 1) := by decide +kernel
theorem d_MC_swapped_9 : decode b_MC_swapped 9 = .ok (.if_icmp .ne 7, 3) := by decide +kernel
theorem d_MC_swapped_12 : decode b_MC_swapped 12 = .ok (.iload_n 1, 1) := by decide +kernel
theorem d_MC_swapped_13 : decode b_MC_swapped 13 = .ok (.goto 4, 3) := by decide +kernel
theorem d_MC_swapped_16 : decode b_MC_swapped 16 = .ok (.iload_n 0, 1) := by decide +kernel
theorem d_MC_swapped_17 : decode b_MC_swapped 17 = .ok (.ireturn, 1) := by decide +kernel
theorem d_MC_trade_0 : decode b_MC_trade 0 = .ok (.aload_n 0, 1) := by decide +kernel
theorem d_MC_trade_1 : decode b_MC_trade 1 = .ok (.getfield 10, 3) := by decide +kernel
theorem d_MC_trade_4 : decode b_MC_trade 4 = .ok (.iload_n 1, 1) := by decide +kernel
theorem d_MC_trade_5 : decode b_MC_trade 5 = .ok (.invokevirtual 85, 3) := by decide +kernel
theorem d_MC_trade_8 : decode b_MC_trade 8 = .ok (.ifCond .eq 19, 3) := by decide +kernel
theorem d_MC_trade_11 : decode b_MC_trade 11 = .ok (.aload_n 0, 1) := by decide +kernel
theorem d_MC_trade_12 : decode b_MC_trade 12 = .ok (.getfield 10, 3) := by decide +kernel
theorem d_MC_trade_15 : decode b_MC_trade 15 = .ok (.iload_n 2, 1) := by decide +kernel
theorem d_MC_trade_16 : decode b_MC_trade 16 = .ok (.invokevirtual 85, 3) := by decide +kernel
theorem d_MC_trade_19 : decode b_MC_trade 19 = .ok (.ifCond .eq 8, 3) := by decide +kernel
theorem d_MC_trade_22 : decode b_MC_trade 22 = .ok (.iload_n 1, 1) := by decide +kernel
theorem d_MC_trade_23 : decode b_MC_trade 23 = .ok (.iload_n 2, 1) := by decide +kernel
theorem d_MC_trade_24 : decode b_MC_trade 24 = .ok (.if_icmp .ne 5, 3) := by decide +kernel
theorem d_MC_trade_27 : decode b_MC_trade 27 = .ok (.iconst (-1), 1) := by decide +kernel
theorem d_MC_trade_28 : decode b_MC_trade 28 = .ok (.ireturn, 1) := by decide +kernel
theorem d_MC_trade_29 : decode b_MC_trade 29 = .ok (.aload_n 0, 1) := by decide +kernel
theorem d_MC_trade_30 : decode b_MC_trade 30 = .ok (.invokevirtual 82, 3) := by decide +kernel
theorem d_MC_trade_33 : decode b_MC_trade 33 = .ok (.aload_n 0, 1) := by decide +kernel
theorem d_MC_trade_34 : decode b_MC_trade 34 = .ok (.getfield 10, 3) := by decide +kernel
theorem d_MC_trade_37 : decode b_MC_trade 37 = .ok (.iload_n 1, 1) := by decide +kernel
theorem d_MC_trade_38 : decode b_MC_trade 38 = .ok (.iload_n 2, 1) := by decide +kernel
theorem d_MC_trade_39 : decode b_MC_trade 39 = .ok (.invokevirtual 171, 3) := by decide +kernel
theorem d_MC_trade_42 : decode b_MC_trade 42 = .ok (.aload_n 0, 1) := by decide +kernel
theorem d_MC_trade_43 : decode b_MC_trade 43 = .ok (.invokevirtual 49, 3) := by decide +kernel
theorem d_MC_trade_46 : decode b_MC_trade 46 = .ok (.aload_n 0, 1) := by decide +kernel
theorem d_MC_trade_47 : decode b_MC_trade 47 = .ok (.getfield 10, 3) := by decide +kernel
theorem d_MC_trade_50 : decode b_MC_trade 50 = .ok (.getfield 71, 3) := by decide +kernel
theorem d_MC_trade_53 : decode b_MC_trade 53 = .ok (.ireturn, 1) := by decide +kernel
theorem d_MC_undo_0 : decode b_MC_undo 0 = .ok (.aload_n 0, 1) := by decide +kernel
theorem d_MC_undo_1 : decode b_MC_undo 1 = .ok (.getfield 42, 3) := by decide +kernel
theorem d_MC_undo_4 : decode b_MC_undo 4 = .ok (.ifCond .gt 5, 3) := by decide +kernel
theorem d_MC_undo_7 : decode b_MC_undo 7 = .ok (.iconst (-1), 1) := by decide +kernel
theorem d_MC_undo_8 : decode b_MC_undo 8 = .ok (.ireturn, 1) := by decide +kernel
theorem d_MC_undo_9 : decode b_MC_undo 9 = .ok (.aload_n 0, 1) := by decide +kernel
theorem d_MC_undo_10 : decode b_MC_undo 10 = .ok (.dup, 1) := by decide +kernel
theorem d_MC_undo_11 : decode b_MC_undo 11 = .ok (.getfield 42, 3) := by decide +kernel
theorem d_MC_undo_14 : decode b_MC_undo 14 = .ok (.iconst 1, 1) := by decide +kernel
theorem d_MC_undo_15 : decode b_MC_undo 15 = .ok (.isub, 1) := by decide +kernel
theorem d_MC_undo_16 : decode b_MC_undo 16 = .ok (.putfield 42, 3) := by decide +kernel
theorem d_MC_undo_19 : decode b_MC_undo 19 = .ok (.aload_n 0, 1) := by decide +kernel
theorem d_MC_undo_20 : decode b_MC_undo 20 = .ok (.getfield 10, 3) := by decide +kernel
theorem d_MC_undo_23 : decode b_MC_undo 23 = .ok (.aload_n 0, 1) := by decide +kernel
theorem d_MC_undo_24 : decode b_MC_undo 24 = .ok (.getfield 35, 3) := by decide +kernel
theorem d_MC_undo_27 : decode b_MC_undo 27 = .ok (.aload_n 0, 1) := by decide +kernel
theorem d_MC_undo_28 : decode b_MC_undo 28 = .ok (.getfield 42, 3) := by decide +kernel
theorem d_MC_undo_31 : decode b_MC_undo 31 = .ok (.aaload, 1) := by decide +kernel
theorem d_MC_undo_32 : decode b_MC_undo 32 = .ok (.invokevirtual 68, 3) := by decide +kernel
theorem d_MC_undo_35 : decode b_MC_undo 35 = .ok (.aload_n 0, 1) := by decide +kernel
theorem d_MC_undo_36 : decode b_MC_undo 36 = .ok (.invokevirtual 49, 3) := by decide +kernel
theorem d_MC_undo_39 : decode b_MC_undo 39 = .ok (.aload_n 0, 1) := by decide +kernel
theorem d_MC_undo_40 : decode b_MC_undo 40 = .ok (.getfield 42, 3) := by decide +kernel
theorem d_MC_undo_43 : decode b_MC_undo 43 = .ok (.ireturn, 1) := by decide +kernel
theorem d_MC_keep_0 : decode b_MC_keep 0 = .ok (.iload_n 1, 1) := by decide +kernel
theorem d_MC_keep_1 : decode b_MC_keep 1 = .ok (.ifCond .lt 8, 3) := by decide +kernel
theorem d_MC_keep_4 : decode b_MC_keep 4 = .ok (.iload_n 1, 1) := by decide +kernel
theorem d_MC_keep_5 : decode b_MC_keep 5 = .ok (.iconst 2, 1) := by decide +kernel
theorem d_MC_keep_6 : decode b_MC_keep 6 = .ok (.if_icmp .lt 5, 3) := by decide +kernel
theorem d_MC_keep_9 : decode b_MC_keep 9 = .ok (.iconst (-1), 1) := by decide +kernel
theorem d_MC_keep_10 : decode b_MC_keep 10 = .ok (.ireturn, 1) := by decide +kernel
theorem d_MC_keep_11 : decode b_MC_keep 11 = .ok (.aload_n 0, 1) := by decide +kernel
theorem d_MC_keep_12 : decode b_MC_keep 12 = .ok (.getfield 39, 3) := by decide +kernel
theorem d_MC_keep_15 : decode b_MC_keep 15 = .ok (.iload_n 1, 1) := by decide +kernel
theorem d_MC_keep_16 : decode b_MC_keep 16 = .ok (.aaload, 1) := by decide +kernel
theorem d_MC_keep_17 : decode b_MC_keep 17 = .ok (.aload_n 0, 1) := by decide +kernel
theorem d_MC_keep_18 : decode b_MC_keep 18 = .ok (.getfield 10, 3) := by decide +kernel
theorem d_MC_keep_21 : decode b_MC_keep 21 = .ok (.invokevirtual 68, 3) := by decide +kernel
theorem d_MC_keep_24 : decode b_MC_keep 24 = .ok (.aload_n 0, 1) := by decide +kernel
theorem d_MC_keep_25 : decode b_MC_keep 25 = .ok (.dup, 1) := by decide +kernel
theorem d_MC_keep_26 : decode b_MC_keep 26 = .ok (.getfield 46, 3) := by decide +kernel
theorem d_MC_keep_29 : decode b_MC_keep 29 = .ok (.iconst 1, 1) := by decide +kernel
theorem d_MC_keep_30 : decode b_MC_keep 30 = .ok (.iload_n 1, 1) := by decide +kernel
theorem d_MC_keep_31 : decode b_MC_keep 31 = .ok (.ishl, 1) := by decide +kernel
theorem d_MC_keep_32 : decode b_MC_keep 32 = .ok (.ior, 1) := by decide +kernel
theorem d_MC_keep_33 : decode b_MC_keep 33 = .ok (.putfield 46, 3) := by decide +kernel
theorem d_MC_keep_36 : decode b_MC_keep 36 = .ok (.aload_n 0, 1) := by decide +kernel
theorem d_MC_keep_37 : decode b_MC_keep 37 = .ok (.getfield 10, 3) := by decide +kernel
theorem d_MC_keep_40 : decode b_MC_keep 40 = .ok (.getfield 108, 3) := by decide +kernel
theorem d_MC_keep_43 : decode b_MC_keep 43 = .ok (.ireturn, 1) := by decide +kernel
theorem d_MC_back_0 : decode b_MC_back 0 = .ok (.iload_n 1, 1) := by decide +kernel
theorem d_MC_back_1 : decode b_MC_back 1 = .ok (.ifCond .lt 8, 3) := by decide +kernel
theorem d_MC_back_4 : decode b_MC_back 4 = .ok (.iload_n 1, 1) := by decide +kernel
theorem d_MC_back_5 : decode b_MC_back 5 = .ok (.iconst 2, 1) := by decide +kernel
theorem d_MC_back_6 : decode b_MC_back 6 = .ok (.if_icmp .lt 5, 3) := by decide +kernel
theorem d_MC_back_9 : decode b_MC_back 9 = .ok (.iconst (-1), 1) := by decide +kernel
theorem d_MC_back_10 : decode b_MC_back 10 = .ok (.ireturn, 1) := by decide +kernel
theorem d_MC_back_11 : decode b_MC_back 11 = .ok (.aload_n 0, 1) := by decide +kernel
theorem d_MC_back_12 : decode b_MC_back 12 = .ok (.getfield 46, 3) := by decide +kernel
theorem d_MC_back_15 : decode b_MC_back 15 = .ok (.iload_n 1, 1) := by decide +kernel
theorem d_MC_back_16 : decode b_MC_back 16 = .ok (.ishr, 1) := by decide +kernel
theorem d_MC_back_17 : decode b_MC_back 17 = .ok (.iconst 1, 1) := by decide +kernel
theorem d_MC_back_18 : decode b_MC_back 18 = .ok (.iand, 1) := by decide +kernel
theorem d_MC_back_19 : decode b_MC_back 19 = .ok (.ifCond .ne 6, 3) := by decide +kernel
theorem d_MC_back_22 : decode b_MC_back 22 = .ok (.bipush (-2), 2) := by decide +kernel
theorem d_MC_back_24 : decode b_MC_back 24 = .ok (.ireturn, 1) := by decide +kernel
theorem d_MC_back_25 : decode b_MC_back 25 = .ok (.aload_n 0, 1) := by decide +kernel
theorem d_MC_back_26 : decode b_MC_back 26 = .ok (.getfield 10, 3) := by decide +kernel
theorem d_MC_back_29 : decode b_MC_back 29 = .ok (.aload_n 0, 1) := by decide +kernel
theorem d_MC_back_30 : decode b_MC_back 30 = .ok (.getfield 39, 3) := by decide +kernel
theorem d_MC_back_33 : decode b_MC_back 33 = .ok (.iload_n 1, 1) := by decide +kernel
theorem d_MC_back_34 : decode b_MC_back 34 = .ok (.aaload, 1) := by decide +kernel
theorem d_MC_back_35 : decode b_MC_back 35 = .ok (.invokevirtual 68, 3) := by decide +kernel
theorem d_MC_back_38 : decode b_MC_back 38 = .ok (.aload_n 0, 1) := by decide +kernel
theorem d_MC_back_39 : decode b_MC_back 39 = .ok (.iconst 0, 1) := by decide +kernel
theorem d_MC_back_40 : decode b_MC_back 40 = .ok (.putfield 42, 3) := by decide +kernel
theorem d_MC_back_43 : decode b_MC_back 43 = .ok (.aload_n 0, 1) := by decide +kernel
theorem d_MC_back_44 : decode b_MC_back 44 = .ok (.invokevirtual 49, 3) := by decide +kernel
theorem d_MC_back_47 : decode b_MC_back 47 = .ok (.aload_n 0, 1) := by decide +kernel
theorem d_MC_back_48 : decode b_MC_back 48 = .ok (.getfield 10, 3) := by decide +kernel
theorem d_MC_back_51 : decode b_MC_back 51 = .ok (.getfield 108, 3) := by decide +kernel
theorem d_MC_back_54 : decode b_MC_back 54 = .ok (.ireturn, 1) := by decide +kernel
theorem d_MC_hasRoundBehind_0 : decode b_MC_hasRoundBehind 0 = .ok (.iload_n 1, 1) := by decide +kernel
theorem d_MC_hasRoundBehind_1 : decode b_MC_hasRoundBehind 1 = .ok (.ifCond .lt 20, 3) := by decide +kernel
theorem d_MC_hasRoundBehind_4 : decode b_MC_hasRoundBehind 4 = .ok (.iload_n 1, 1) := by decide +kernel
theorem d_MC_hasRoundBehind_5 : decode b_MC_hasRoundBehind 5 = .ok (.aload_n 0, 1) := by decide +kernel
theorem d_MC_hasRoundBehind_6 : decode b_MC_hasRoundBehind 6 = .ok (.getfield 10, 3) := by decide +kernel
theorem d_MC_hasRoundBehind_9 : decode b_MC_hasRoundBehind 9 = .ok (.getfield 78, 3) := by decide +kernel
theorem d_MC_hasRoundBehind_12 : decode b_MC_hasRoundBehind 12 = .ok (.iconst 2, 1) := by decide +kernel
theorem d_MC_hasRoundBehind_13 : decode b_MC_hasRoundBehind 13 = .ok (.iaload, 1) := by decide +kernel
theorem d_MC_hasRoundBehind_14 : decode b_MC_hasRoundBehind 14 = .ok (.if_icmp .gt 7, 3) := by decide +kernel
theorem d_MC_hasRoundBehind_17 : decode b_MC_hasRoundBehind 17 = .ok (.iconst 1, 1) := by decide +kernel
theorem d_MC_hasRoundBehind_18 : decode b_MC_hasRoundBehind 18 = .ok (.goto 4, 3) := by decide +kernel
theorem d_MC_hasRoundBehind_21 : decode b_MC_hasRoundBehind 21 = .ok (.iconst 0, 1) := by decide +kernel
theorem d_MC_hasRoundBehind_22 : decode b_MC_hasRoundBehind 22 = .ok (.ireturn, 1) := by decide +kernel
theorem d_MC_set_0 : decode b_MC_set 0 = .ok (.aload_n 0, 1) := by decide +kernel
theorem d_MC_set_1 : decode b_MC_set 1 = .ok (.getfield 10, 3) := by decide +kernel
theorem d_MC_set_4 : decode b_MC_set 4 = .ok (.iload_n 1, 1) := by decide +kernel
theorem d_MC_set_5 : decode b_MC_set 5 = .ok (.invokevirtual 174, 3) := by decide +kernel
theorem d_MC_set_8 : decode b_MC_set 8 = .ok (.ifCond .eq 11, 3) := by decide +kernel
theorem d_MC_set_11 : decode b_MC_set 11 = .ok (.aload_n 0, 1) := by decide +kernel
theorem d_MC_set_12 : decode b_MC_set 12 = .ok (.iload_n 2, 1) := by decide +kernel
theorem d_MC_set_13 : decode b_MC_set 13 = .ok (.invokevirtual 177, 3) := by decide +kernel
theorem d_MC_set_16 : decode b_MC_set 16 = .ok (.ifCond .ne 5, 3) := by decide +kernel
theorem d_MC_set_19 : decode b_MC_set 19 = .ok (.iconst (-1), 1) := by decide +kernel
theorem d_MC_set_20 : decode b_MC_set 20 = .ok (.ireturn, 1) := by decide +kernel
theorem d_MC_set_21 : decode b_MC_set 21 = .ok (.aload_n 0, 1) := by decide +kernel
theorem d_MC_set_22 : decode b_MC_set 22 = .ok (.getfield 28, 3) := by decide +kernel
theorem d_MC_set_25 : decode b_MC_set 25 = .ok (.iload_n 1, 1) := by decide +kernel
theorem d_MC_set_26 : decode b_MC_set 26 = .ok (.iload_n 2, 1) := by decide +kernel
theorem d_MC_set_27 : decode b_MC_set 27 = .ok (.invokevirtual 180, 3) := by decide +kernel
theorem d_MC_set_30 : decode b_MC_set 30 = .ok (.ireturn, 1) := by decide +kernel
theorem d_MC_decision_0 : decode b_MC_decision 0 = .ok (.aload_n 0, 1) := by decide +kernel
theorem d_MC_decision_1 : decode b_MC_decision 1 = .ok (.getfield 10, 3) := by decide +kernel
theorem d_MC_decision_4 : decode b_MC_decision 4 = .ok (.iload_n 1, 1) := by decide +kernel
theorem d_MC_decision_5 : decode b_MC_decision 5 = .ok (.invokevirtual 174, 3) := by decide +kernel
theorem d_MC_decision_8 : decode b_MC_decision 8 = .ok (.ifCond .ne 5, 3) := by decide +kernel
theorem d_MC_decision_11 : decode b_MC_decision 11 = .ok (.iconst (-1), 1) := by decide +kernel
theorem d_MC_decision_12 : decode b_MC_decision 12 = .ok (.ireturn, 1) := by decide +kernel
theorem d_MC_decision_13 : decode b_MC_decision 13 = .ok (.aload_n 0, 1) := by decide +kernel
theorem d_MC_decision_14 : decode b_MC_decision 14 = .ok (.getfield 28, 3) := by decide +kernel
theorem d_MC_decision_17 : decode b_MC_decision 17 = .ok (.iload_n 1, 1) := by decide +kernel
theorem d_MC_decision_18 : decode b_MC_decision 18 = .ok (.invokevirtual 183, 3) := by decide +kernel
theorem d_MC_decision_21 : decode b_MC_decision 21 = .ok (.ireturn, 1) := by decide +kernel
theorem d_MC_extracted_0 : decode b_MC_extracted 0 = .ok (.aload_n 0, 1) := by decide +kernel
theorem d_MC_extracted_1 : decode b_MC_extracted 1 = .ok (.getfield 10, 3) := by decide +kernel
theorem d_MC_extracted_4 : decode b_MC_extracted 4 = .ok (.iload_n 1, 1) := by decide +kernel
theorem d_MC_extracted_5 : decode b_MC_extracted 5 = .ok (.invokevirtual 174, 3) := by decide +kernel
theorem d_MC_extracted_8 : decode b_MC_extracted 8 = .ok (.ifCond .eq 19, 3) := by decide +kernel
theorem d_MC_extracted_11 : decode b_MC_extracted 11 = .ok (.iload_n 2, 1) := by decide +kernel
theorem d_MC_extracted_12 : decode b_MC_extracted 12 = .ok (.invokestatic 102, 3) := by decide +kernel
theorem d_MC_extracted_15 : decode b_MC_extracted 15 = .ok (.ifCond .eq 12, 3) := by decide +kernel
theorem d_MC_extracted_18 : decode b_MC_extracted 18 = .ok (.iload_n 3, 1) := by decide +kernel
theorem d_MC_extracted_19 : decode b_MC_extracted 19 = .ok (.ifCond .lt 8, 3) := by decide +kernel
theorem d_MC_extracted_22 : decode b_MC_extracted 22 = .ok (.iload_n 3, 1) := by decide +kernel
theorem d_MC_extracted_23 : decode b_MC_extracted 23 = .ok (.iconst 3, 1) := by decide +kernel
theorem d_MC_extracted_24 : decode b_MC_extracted 24 = .ok (.if_icmp .le 5, 3) := by decide +kernel
theorem d_MC_extracted_27 : decode b_MC_extracted 27 = .ok (.iconst (-1), 1) := by decide +kernel
theorem d_MC_extracted_28 : decode b_MC_extracted 28 = .ok (.ireturn, 1) := by decide +kernel
theorem d_MC_extracted_29 : decode b_MC_extracted 29 = .ok (.iload_n 1, 1) := by decide +kernel
theorem d_MC_extracted_30 : decode b_MC_extracted 30 = .ok (.iload_n 2, 1) := by decide +kernel
theorem d_MC_extracted_31 : decode b_MC_extracted 31 = .ok (.invokestatic 186, 3) := by decide +kernel
theorem d_MC_extracted_34 : decode b_MC_extracted 34 = .ok (.istore 4, 2) := by decide +kernel
theorem d_MC_extracted_36 : decode b_MC_extracted 36 = .ok (.aload_n 0, 1) := by decide +kernel
theorem d_MC_extracted_37 : decode b_MC_extracted 37 = .ok (.getfield 28, 3) := by decide +kernel
theorem d_MC_extracted_40 : decode b_MC_extracted 40 = .ok (.getfield 189, 3) := by decide +kernel
theorem d_MC_extracted_43 : decode b_MC_extracted 43 = .ok (.iload 4, 2) := by decide +kernel
theorem d_MC_extracted_45 : decode b_MC_extracted 45 = .ok (.iaload, 1) := by decide +kernel
theorem d_MC_extracted_46 : decode b_MC_extracted 46 = .ok (.istore 5, 2) := by decide +kernel
theorem d_MC_extracted_48 : decode b_MC_extracted 48 = .ok (.iload 5, 2) := by decide +kernel
theorem d_MC_extracted_50 : decode b_MC_extracted 50 = .ok (.bipush 99, 2) := by decide +kernel
theorem d_MC_extracted_52 : decode b_MC_extracted 52 = .ok (.if_icmp .ne 6, 3) := by decide +kernel
theorem d_MC_extracted_55 : decode b_MC_extracted 55 = .ok (.bipush (-2), 2) := by decide +kernel
theorem d_MC_extracted_57 : decode b_MC_extracted 57 = .ok (.ireturn, 1) := by decide +kernel
theorem d_MC_extracted_58 : decode b_MC_extracted 58 = .ok (.iload_n 3, 1) := by decide +kernel
theorem d_MC_extracted_59 : decode b_MC_extracted 59 = .ok (.tableswitch 53 0 2 #[25, 28, 39], 25) := by decide +kernel
theorem d_MC_extracted_84 : decode b_MC_extracted 84 = .ok (.iload 5, 2) := by decide +kernel
theorem d_MC_extracted_86 : decode b_MC_extracted 86 = .ok (.ireturn, 1) := by decide +kernel
theorem d_MC_extracted_87 : decode b_MC_extracted 87 = .ok (.aload_n 0, 1) := by decide +kernel
theorem d_MC_extracted_88 : decode b_MC_extracted 88 = .ok (.getfield 28, 3) := by decide +kernel
theorem d_MC_extracted_91 : decode b_MC_extracted 91 = .ok (.getfield 192, 3) := by decide +kernel
theorem d_MC_extracted_94 : decode b_MC_extracted 94 = .ok (.iload 4, 2) := by decide +kernel
theorem d_MC_extracted_96 : decode b_MC_extracted 96 = .ok (.iaload, 1) := by decide +kernel
theorem d_MC_extracted_97 : decode b_MC_extracted 97 = .ok (.ireturn, 1) := by decide +kernel
theorem d_MC_extracted_98 : decode b_MC_extracted 98 = .ok (.aload_n 0, 1) := by decide +kernel
theorem d_MC_extracted_99 : decode b_MC_extracted 99 = .ok (.getfield 28, 3) := by decide +kernel
theorem d_MC_extracted_102 : decode b_MC_extracted 102 = .ok (.getfield 195, 3) := by decide +kernel
theorem d_MC_extracted_105 : decode b_MC_extracted 105 = .ok (.iload 4, 2) := by decide +kernel
theorem d_MC_extracted_107 : decode b_MC_extracted 107 = .ok (.iaload, 1) := by decide +kernel
theorem d_MC_extracted_108 : decode b_MC_extracted 108 = .ok (.invokestatic 168, 3) := by decide +kernel
theorem d_MC_extracted_111 : decode b_MC_extracted 111 = .ok (.ireturn, 1) := by decide +kernel
theorem d_MC_extracted_112 : decode b_MC_extracted 112 = .ok (.aload_n 0, 1) := by decide +kernel
theorem d_MC_extracted_113 : decode b_MC_extracted 113 = .ok (.getfield 28, 3) := by decide +kernel
theorem d_MC_extracted_116 : decode b_MC_extracted 116 = .ok (.iload_n 1, 1) := by decide +kernel
theorem d_MC_extracted_117 : decode b_MC_extracted 117 = .ok (.iload_n 2, 1) := by decide +kernel
theorem d_MC_extracted_118 : decode b_MC_extracted 118 = .ok (.invokevirtual 198, 3) := by decide +kernel
theorem d_MC_extracted_121 : decode b_MC_extracted 121 = .ok (.ifCond .eq 7, 3) := by decide +kernel
theorem d_MC_extracted_124 : decode b_MC_extracted 124 = .ok (.iconst 1, 1) := by decide +kernel
theorem d_MC_extracted_125 : decode b_MC_extracted 125 = .ok (.goto 4, 3) := by decide +kernel
theorem d_MC_extracted_128 : decode b_MC_extracted 128 = .ok (.iconst 0, 1) := by decide +kernel
theorem d_MC_extracted_129 : decode b_MC_extracted 129 = .ok (.ireturn, 1) := by decide +kernel
theorem d_MC_holders_0 : decode b_MC_holders 0 = .ok (.aload_n 0, 1) := by decide +kernel
theorem d_MC_holders_1 : decode b_MC_holders 1 = .ok (.getfield 10, 3) := by decide +kernel
theorem d_MC_holders_4 : decode b_MC_holders 4 = .ok (.getfield 71, 3) := by decide +kernel
theorem d_MC_holders_7 : decode b_MC_holders 7 = .ok (.ifCond .eq 18, 3) := by decide +kernel
theorem d_MC_holders_10 : decode b_MC_holders 10 = .ok (.iload_n 1, 1) := by decide +kernel
theorem d_MC_holders_11 : decode b_MC_holders 11 = .ok (.invokestatic 102, 3) := by decide +kernel
theorem d_MC_holders_14 : decode b_MC_holders 14 = .ok (.ifCond .eq 11, 3) := by decide +kernel
theorem d_MC_holders_17 : decode b_MC_holders 17 = .ok (.aload_n 0, 1) := by decide +kernel
theorem d_MC_holders_18 : decode b_MC_holders 18 = .ok (.iload_n 2, 1) := by decide +kernel
theorem d_MC_holders_19 : decode b_MC_holders 19 = .ok (.invokevirtual 177, 3) := by decide +kernel
theorem d_MC_holders_22 : decode b_MC_holders 22 = .ok (.ifCond .ne 5, 3) := by decide +kernel
theorem d_MC_holders_25 : decode b_MC_holders 25 = .ok (.iconst (-1), 1) := by decide +kernel
theorem d_MC_holders_26 : decode b_MC_holders 26 = .ok (.ireturn, 1) := by decide +kernel
theorem d_MC_holders_27 : decode b_MC_holders 27 = .ok (.iconst 0, 1) := by decide +kernel
theorem d_MC_holders_28 : decode b_MC_holders 28 = .ok (.istore_n 3, 1) := by decide +kernel
theorem d_MC_holders_29 : decode b_MC_holders 29 = .ok (.iconst 0, 1) := by decide +kernel
theorem d_MC_holders_30 : decode b_MC_holders 30 = .ok (.istore 4, 2) := by decide +kernel
theorem d_MC_holders_32 : decode b_MC_holders 32 = .ok (.iload 4, 2) := by decide +kernel
theorem d_MC_holders_34 : decode b_MC_holders 34 = .ok (.aload_n 0, 1) := by decide +kernel
theorem d_MC_holders_35 : decode b_MC_holders 35 = .ok (.getfield 10, 3) := by decide +kernel
theorem d_MC_holders_38 : decode b_MC_holders 38 = .ok (.getfield 71, 3) := by decide +kernel
theorem d_MC_holders_41 : decode b_MC_holders 41 = .ok (.if_icmp .ge 33, 3) := by decide +kernel
theorem d_MC_holders_44 : decode b_MC_holders 44 = .ok (.aload_n 0, 1) := by decide +kernel
theorem d_MC_holders_45 : decode b_MC_holders 45 = .ok (.getfield 28, 3) := by decide +kernel
theorem d_MC_holders_48 : decode b_MC_holders 48 = .ok (.iload 4, 2) := by decide +kernel
theorem d_MC_holders_50 : decode b_MC_holders 50 = .ok (.iload_n 2, 1) := by decide +kernel
theorem d_MC_holders_51 : decode b_MC_holders 51 = .ok (.invokevirtual 180, 3) := by decide +kernel
theorem d_MC_holders_54 : decode b_MC_holders 54 = .ok (.iload_n 1, 1) := by decide +kernel
theorem d_MC_holders_55 : decode b_MC_holders 55 = .ok (.ishr, 1) := by decide +kernel
theorem d_MC_holders_56 : decode b_MC_holders 56 = .ok (.iconst 1, 1) := by decide +kernel
theorem d_MC_holders_57 : decode b_MC_holders 57 = .ok (.iand, 1) := by decide +kernel
theorem d_MC_holders_58 : decode b_MC_holders 58 = .ok (.ifCond .eq 10, 3) := by decide +kernel
theorem d_MC_holders_61 : decode b_MC_holders 61 = .ok (.iload_n 3, 1) := by decide +kernel
theorem d_MC_holders_62 : decode b_MC_holders 62 = .ok (.iconst 1, 1) := by decide +kernel
theorem d_MC_holders_63 : decode b_MC_holders 63 = .ok (.iload 4, 2) := by decide +kernel
theorem d_MC_holders_65 : decode b_MC_holders 65 = .ok (.ishl, 1) := by decide +kernel
theorem d_MC_holders_66 : decode b_MC_holders 66 = .ok (.ior, 1) := by decide +kernel
theorem d_MC_holders_67 : decode b_MC_holders 67 = .ok (.istore_n 3, 1) := by decide +kernel
theorem d_MC_holders_68 : decode b_MC_holders 68 = .ok (.iinc 4 1, 3) := by decide +kernel
theorem d_MC_holders_71 : decode b_MC_holders 71 = .ok (.goto (-39), 3) := by decide +kernel
theorem d_MC_holders_74 : decode b_MC_holders 74 = .ok (.iload_n 3, 1) := by decide +kernel
theorem d_MC_holders_75 : decode b_MC_holders 75 = .ok (.ireturn, 1) := by decide +kernel
theorem d_MC_path_0 : decode b_MC_path 0 = .ok (.aload_n 0, 1) := by decide +kernel
theorem d_MC_path_1 : decode b_MC_path 1 = .ok (.getfield 10, 3) := by decide +kernel
theorem d_MC_path_4 : decode b_MC_path 4 = .ok (.iload_n 1, 1) := by decide +kernel
theorem d_MC_path_5 : decode b_MC_path 5 = .ok (.invokevirtual 174, 3) := by decide +kernel
theorem d_MC_path_8 : decode b_MC_path 8 = .ok (.ifCond .eq 15, 3) := by decide +kernel
theorem d_MC_path_11 : decode b_MC_path 11 = .ok (.iload_n 2, 1) := by decide +kernel
theorem d_MC_path_12 : decode b_MC_path 12 = .ok (.invokestatic 102, 3) := by decide +kernel
theorem d_MC_path_15 : decode b_MC_path 15 = .ok (.ifCond .eq 8, 3) := by decide +kernel
theorem d_MC_path_18 : decode b_MC_path 18 = .ok (.iload_n 3, 1) := by decide +kernel
theorem d_MC_path_19 : decode b_MC_path 19 = .ok (.iconst (-1), 1) := by decide +kernel
theorem d_MC_path_20 : decode b_MC_path 20 = .ok (.if_icmp .ge 5, 3) := by decide +kernel
theorem d_MC_path_23 : decode b_MC_path 23 = .ok (.iconst (-1), 1) := by decide +kernel
theorem d_MC_path_24 : decode b_MC_path 24 = .ok (.ireturn, 1) := by decide +kernel
theorem d_MC_path_25 : decode b_MC_path 25 = .ok (.iload_n 1, 1) := by decide +kernel
theorem d_MC_path_26 : decode b_MC_path 26 = .ok (.iload_n 2, 1) := by decide +kernel
theorem d_MC_path_27 : decode b_MC_path 27 = .ok (.invokestatic 186, 3) := by decide +kernel
theorem d_MC_path_30 : decode b_MC_path 30 = .ok (.istore 4, 2) := by decide +kernel
theorem d_MC_path_32 : decode b_MC_path 32 = .ok (.aload_n 0, 1) := by decide +kernel
theorem d_MC_path_33 : decode b_MC_path 33 = .ok (.getfield 28, 3) := by decide +kernel
theorem d_MC_path_36 : decode b_MC_path 36 = .ok (.getfield 189, 3) := by decide +kernel
theorem d_MC_path_39 : decode b_MC_path 39 = .ok (.iload 4, 2) := by decide +kernel
theorem d_MC_path_41 : decode b_MC_path 41 = .ok (.iaload, 1) := by decide +kernel
theorem d_MC_path_42 : decode b_MC_path 42 = .ok (.bipush 99, 2) := by decide +kernel
theorem d_MC_path_44 : decode b_MC_path 44 = .ok (.if_icmp .ne 6, 3) := by decide +kernel
theorem d_MC_path_47 : decode b_MC_path 47 = .ok (.bipush (-2), 2) := by decide +kernel
theorem d_MC_path_49 : decode b_MC_path 49 = .ok (.ireturn, 1) := by decide +kernel
theorem d_MC_path_50 : decode b_MC_path 50 = .ok (.aload_n 0, 1) := by decide +kernel
theorem d_MC_path_51 : decode b_MC_path 51 = .ok (.getfield 28, 3) := by decide +kernel
theorem d_MC_path_54 : decode b_MC_path 54 = .ok (.getfield 195, 3) := by decide +kernel
theorem d_MC_path_57 : decode b_MC_path 57 = .ok (.iload 4, 2) := by decide +kernel
theorem d_MC_path_59 : decode b_MC_path 59 = .ok (.iaload, 1) := by decide +kernel
theorem d_MC_path_60 : decode b_MC_path 60 = .ok (.istore 5, 2) := by decide +kernel
theorem d_MC_path_62 : decode b_MC_path 62 = .ok (.iload_n 3, 1) := by decide +kernel
theorem d_MC_path_63 : decode b_MC_path 63 = .ok (.iconst (-1), 1) := by decide +kernel
theorem d_MC_path_64 : decode b_MC_path 64 = .ok (.if_icmp .ne 9, 3) := by decide +kernel
theorem d_MC_path_67 : decode b_MC_path 67 = .ok (.iload 5, 2) := by decide +kernel
theorem d_MC_path_69 : decode b_MC_path 69 = .ok (.invokestatic 168, 3) := by decide +kernel
theorem d_MC_path_72 : decode b_MC_path 72 = .ok (.ireturn, 1) := by decide +kernel
theorem d_MC_path_73 : decode b_MC_path 73 = .ok (.iload_n 3, 1) := by decide +kernel
theorem d_MC_path_74 : decode b_MC_path 74 = .ok (.iload 5, 2) := by decide +kernel
theorem d_MC_path_76 : decode b_MC_path 76 = .ok (.invokestatic 168, 3) := by decide +kernel
theorem d_MC_path_79 : decode b_MC_path 79 = .ok (.if_icmp .ge 12, 3) := by decide +kernel
theorem d_MC_path_82 : decode b_MC_path 82 = .ok (.iload 5, 2) := by decide +kernel
theorem d_MC_path_84 : decode b_MC_path 84 = .ok (.iload_n 3, 1) := by decide +kernel
theorem d_MC_path_85 : decode b_MC_path 85 = .ok (.invokestatic 161, 3) := by decide +kernel
theorem d_MC_path_88 : decode b_MC_path 88 = .ok (.goto 5, 3) := by decide +kernel
theorem d_MC_path_91 : decode b_MC_path 91 = .ok (.bipush (-2), 2) := by decide +kernel
theorem d_MC_path_93 : decode b_MC_path 93 = .ok (.ireturn, 1) := by decide +kernel
theorem d_MC_caught_0 : decode b_MC_caught 0 = .ok (.aload_n 0, 1) := by decide +kernel
theorem d_MC_caught_1 : decode b_MC_caught 1 = .ok (.getfield 10, 3) := by decide +kernel
theorem d_MC_caught_4 : decode b_MC_caught 4 = .ok (.iload_n 1, 1) := by decide +kernel
theorem d_MC_caught_5 : decode b_MC_caught 5 = .ok (.invokevirtual 174, 3) := by decide +kernel
theorem d_MC_caught_8 : decode b_MC_caught 8 = .ok (.ifCond .ne 5, 3) := by decide +kernel
theorem d_MC_caught_11 : decode b_MC_caught 11 = .ok (.iconst (-1), 1) := by decide +kernel
theorem d_MC_caught_12 : decode b_MC_caught 12 = .ok (.ireturn, 1) := by decide +kernel
theorem d_MC_caught_13 : decode b_MC_caught 13 = .ok (.aload_n 0, 1) := by decide +kernel
theorem d_MC_caught_14 : decode b_MC_caught 14 = .ok (.getfield 28, 3) := by decide +kernel
theorem d_MC_caught_17 : decode b_MC_caught 17 = .ok (.iload_n 1, 1) := by decide +kernel
theorem d_MC_caught_18 : decode b_MC_caught 18 = .ok (.invokevirtual 201, 3) := by decide +kernel
theorem d_MC_caught_21 : decode b_MC_caught 21 = .ok (.ireturn, 1) := by decide +kernel
theorem d_MC_hasLetter_0 : decode b_MC_hasLetter 0 = .ok (.iload_n 1, 1) := by decide +kernel
theorem d_MC_hasLetter_1 : decode b_MC_hasLetter 1 = .ok (.ifCond .lt 18, 3) := by decide +kernel
theorem d_MC_hasLetter_4 : decode b_MC_hasLetter 4 = .ok (.iload_n 1, 1) := by decide +kernel
theorem d_MC_hasLetter_5 : decode b_MC_hasLetter 5 = .ok (.aload_n 0, 1) := by decide +kernel
theorem d_MC_hasLetter_6 : decode b_MC_hasLetter 6 = .ok (.getfield 28, 3) := by decide +kernel
theorem d_MC_hasLetter_9 : decode b_MC_hasLetter 9 = .ok (.getfield 204, 3) := by decide +kernel
theorem d_MC_hasLetter_12 : decode b_MC_hasLetter 12 = .ok (.if_icmp .ge 7, 3) := by decide +kernel
theorem d_MC_hasLetter_15 : decode b_MC_hasLetter 15 = .ok (.iconst 1, 1) := by decide +kernel
theorem d_MC_hasLetter_16 : decode b_MC_hasLetter 16 = .ok (.goto 4, 3) := by decide +kernel
theorem d_MC_hasLetter_19 : decode b_MC_hasLetter 19 = .ok (.iconst 0, 1) := by decide +kernel
theorem d_MC_hasLetter_20 : decode b_MC_hasLetter 20 = .ok (.ireturn, 1) := by decide +kernel
theorem d_MC_letter_0 : decode b_MC_letter 0 = .ok (.aload_n 0, 1) := by decide +kernel
theorem d_MC_letter_1 : decode b_MC_letter 1 = .ok (.getfield 10, 3) := by decide +kernel
theorem d_MC_letter_4 : decode b_MC_letter 4 = .ok (.getfield 71, 3) := by decide +kernel
theorem d_MC_letter_7 : decode b_MC_letter 7 = .ok (.ifCond .ne 5, 3) := by decide +kernel
theorem d_MC_letter_10 : decode b_MC_letter 10 = .ok (.iconst (-1), 1) := by decide +kernel
theorem d_MC_letter_11 : decode b_MC_letter 11 = .ok (.ireturn, 1) := by decide +kernel
theorem d_MC_letter_12 : decode b_MC_letter 12 = .ok (.iload_n 1, 1) := by decide +kernel
theorem d_MC_letter_13 : decode b_MC_letter 13 = .ok (.iconst (-1), 1) := by decide +kernel
theorem d_MC_letter_14 : decode b_MC_letter 14 = .ok (.if_icmp .ne 15, 3) := by decide +kernel
theorem d_MC_letter_17 : decode b_MC_letter 17 = .ok (.iload_n 2, 1) := by decide +kernel
theorem d_MC_letter_18 : decode b_MC_letter 18 = .ok (.ifCond .ne 11, 3) := by decide +kernel
theorem d_MC_letter_21 : decode b_MC_letter 21 = .ok (.aload_n 0, 1) := by decide +kernel
theorem d_MC_letter_22 : decode b_MC_letter 22 = .ok (.getfield 28, 3) := by decide +kernel
theorem d_MC_letter_25 : decode b_MC_letter 25 = .ok (.getfield 204, 3) := by decide +kernel
theorem d_MC_letter_28 : decode b_MC_letter 28 = .ok (.ireturn, 1) := by decide +kernel
theorem d_MC_letter_29 : decode b_MC_letter 29 = .ok (.aload_n 0, 1) := by decide +kernel
theorem d_MC_letter_30 : decode b_MC_letter 30 = .ok (.iload_n 1, 1) := by decide +kernel
theorem d_MC_letter_31 : decode b_MC_letter 31 = .ok (.invokevirtual 207, 3) := by decide +kernel
theorem d_MC_letter_34 : decode b_MC_letter 34 = .ok (.ifCond .ne 5, 3) := by decide +kernel
theorem d_MC_letter_37 : decode b_MC_letter 37 = .ok (.iconst (-1), 1) := by decide +kernel
theorem d_MC_letter_38 : decode b_MC_letter 38 = .ok (.ireturn, 1) := by decide +kernel
theorem d_MC_letter_39 : decode b_MC_letter 39 = .ok (.iload_n 2, 1) := by decide +kernel
theorem d_MC_letter_40 : decode b_MC_letter 40 = .ok (.tableswitch 126 0 6 #[44, 57, 70, 83, 93, 106, 116], 44) := by decide +kernel
theorem d_MC_letter_84 : decode b_MC_letter 84 = .ok (.aload_n 0, 1) := by decide +kernel
theorem d_MC_letter_85 : decode b_MC_letter 85 = .ok (.getfield 28, 3) := by decide +kernel
theorem d_MC_letter_88 : decode b_MC_letter 88 = .ok (.getfield 210, 3) := by decide +kernel
theorem d_MC_letter_91 : decode b_MC_letter 91 = .ok (.iload_n 1, 1) := by decide +kernel
theorem d_MC_letter_92 : decode b_MC_letter 92 = .ok (.iaload, 1) := by decide +kernel
theorem d_MC_letter_93 : decode b_MC_letter 93 = .ok (.invokestatic 213, 3) := by decide +kernel
theorem d_MC_letter_96 : decode b_MC_letter 96 = .ok (.ireturn, 1) := by decide +kernel
theorem d_MC_letter_97 : decode b_MC_letter 97 = .ok (.aload_n 0, 1) := by decide +kernel
theorem d_MC_letter_98 : decode b_MC_letter 98 = .ok (.getfield 28, 3) := by decide +kernel
theorem d_MC_letter_101 : decode b_MC_letter 101 = .ok (.getfield 210, 3) := by decide +kernel
theorem d_MC_letter_104 : decode b_MC_letter 104 = .ok (.iload_n 1, 1) := by decide +kernel
theorem d_MC_letter_105 : decode b_MC_letter 105 = .ok (.iaload, 1) := by decide +kernel
theorem d_MC_letter_106 : decode b_MC_letter 106 = .ok (.invokestatic 216, 3) := by decide +kernel
theorem d_MC_letter_109 : decode b_MC_letter 109 = .ok (.ireturn, 1) := by decide +kernel
theorem d_MC_letter_110 : decode b_MC_letter 110 = .ok (.aload_n 0, 1) := by decide +kernel
theorem d_MC_letter_111 : decode b_MC_letter 111 = .ok (.getfield 28, 3) := by decide +kernel
theorem d_MC_letter_114 : decode b_MC_letter 114 = .ok (.getfield 210, 3) := by decide +kernel
theorem d_MC_letter_117 : decode b_MC_letter 117 = .ok (.iload_n 1, 1) := by decide +kernel
theorem d_MC_letter_118 : decode b_MC_letter 118 = .ok (.iaload, 1) := by decide +kernel
theorem d_MC_letter_119 : decode b_MC_letter 119 = .ok (.invokestatic 219, 3) := by decide +kernel
theorem d_MC_letter_122 : decode b_MC_letter 122 = .ok (.ireturn, 1) := by decide +kernel
theorem d_MC_letter_123 : decode b_MC_letter 123 = .ok (.aload_n 0, 1) := by decide +kernel
theorem d_MC_letter_124 : decode b_MC_letter 124 = .ok (.getfield 28, 3) := by decide +kernel
theorem d_MC_letter_127 : decode b_MC_letter 127 = .ok (.getfield 222, 3) := by decide +kernel
theorem d_MC_letter_130 : decode b_MC_letter 130 = .ok (.iload_n 1, 1) := by decide +kernel
theorem d_MC_letter_131 : decode b_MC_letter 131 = .ok (.iaload, 1) := by decide +kernel
theorem d_MC_letter_132 : decode b_MC_letter 132 = .ok (.ireturn, 1) := by decide +kernel
theorem d_MC_letter_133 : decode b_MC_letter 133 = .ok (.aload_n 0, 1) := by decide +kernel
theorem d_MC_letter_134 : decode b_MC_letter 134 = .ok (.getfield 28, 3) := by decide +kernel
theorem d_MC_letter_137 : decode b_MC_letter 137 = .ok (.getfield 225, 3) := by decide +kernel
theorem d_MC_letter_140 : decode b_MC_letter 140 = .ok (.iload_n 1, 1) := by decide +kernel
theorem d_MC_letter_141 : decode b_MC_letter 141 = .ok (.iaload, 1) := by decide +kernel
theorem d_MC_letter_142 : decode b_MC_letter 142 = .ok (.invokestatic 168, 3) := by decide +kernel
theorem d_MC_letter_145 : decode b_MC_letter 145 = .ok (.ireturn, 1) := by decide +kernel
theorem d_MC_letter_146 : decode b_MC_letter 146 = .ok (.aload_n 0, 1) := by decide +kernel
theorem d_MC_letter_147 : decode b_MC_letter 147 = .ok (.getfield 28, 3) := by decide +kernel
theorem d_MC_letter_150 : decode b_MC_letter 150 = .ok (.getfield 228, 3) := by decide +kernel
theorem d_MC_letter_153 : decode b_MC_letter 153 = .ok (.iload_n 1, 1) := by decide +kernel
theorem d_MC_letter_154 : decode b_MC_letter 154 = .ok (.iaload, 1) := by decide +kernel
theorem d_MC_letter_155 : decode b_MC_letter 155 = .ok (.ireturn, 1) := by decide +kernel
theorem d_MC_letter_156 : decode b_MC_letter 156 = .ok (.aload_n 0, 1) := by decide +kernel
theorem d_MC_letter_157 : decode b_MC_letter 157 = .ok (.getfield 28, 3) := by decide +kernel
theorem d_MC_letter_160 : decode b_MC_letter 160 = .ok (.getfield 231, 3) := by decide +kernel
theorem d_MC_letter_163 : decode b_MC_letter 163 = .ok (.iload_n 1, 1) := by decide +kernel
theorem d_MC_letter_164 : decode b_MC_letter 164 = .ok (.iaload, 1) := by decide +kernel
theorem d_MC_letter_165 : decode b_MC_letter 165 = .ok (.ireturn, 1) := by decide +kernel
theorem d_MC_letter_166 : decode b_MC_letter 166 = .ok (.iconst (-1), 1) := by decide +kernel
theorem d_MC_letter_167 : decode b_MC_letter 167 = .ok (.ireturn, 1) := by decide +kernel
theorem d_MC_mark_0 : decode b_MC_mark 0 = .ok (.aload_n 0, 1) := by decide +kernel
theorem d_MC_mark_1 : decode b_MC_mark 1 = .ok (.iload_n 1, 1) := by decide +kernel
theorem d_MC_mark_2 : decode b_MC_mark 2 = .ok (.invokevirtual 207, 3) := by decide +kernel
theorem d_MC_mark_5 : decode b_MC_mark 5 = .ok (.ifCond .eq 23, 3) := by decide +kernel
theorem d_MC_mark_8 : decode b_MC_mark 8 = .ok (.iload_n 2, 1) := by decide +kernel
theorem d_MC_mark_9 : decode b_MC_mark 9 = .ok (.ifCond .lt 19, 3) := by decide +kernel
theorem d_MC_mark_12 : decode b_MC_mark 12 = .ok (.iload_n 2, 1) := by decide +kernel
theorem d_MC_mark_13 : decode b_MC_mark 13 = .ok (.aload_n 0, 1) := by decide +kernel
theorem d_MC_mark_14 : decode b_MC_mark 14 = .ok (.getfield 28, 3) := by decide +kernel
theorem d_MC_mark_17 : decode b_MC_mark 17 = .ok (.getfield 225, 3) := by decide +kernel
theorem d_MC_mark_20 : decode b_MC_mark 20 = .ok (.iload_n 1, 1) := by decide +kernel
theorem d_MC_mark_21 : decode b_MC_mark 21 = .ok (.iaload, 1) := by decide +kernel
theorem d_MC_mark_22 : decode b_MC_mark 22 = .ok (.invokestatic 168, 3) := by decide +kernel
theorem d_MC_mark_25 : decode b_MC_mark 25 = .ok (.if_icmp .lt 5, 3) := by decide +kernel
theorem d_MC_mark_28 : decode b_MC_mark 28 = .ok (.iconst (-1), 1) := by decide +kernel
theorem d_MC_mark_29 : decode b_MC_mark 29 = .ok (.ireturn, 1) := by decide +kernel
theorem d_MC_mark_30 : decode b_MC_mark 30 = .ok (.aload_n 0, 1) := by decide +kernel
theorem d_MC_mark_31 : decode b_MC_mark 31 = .ok (.getfield 28, 3) := by decide +kernel
theorem d_MC_mark_34 : decode b_MC_mark 34 = .ok (.getfield 225, 3) := by decide +kernel
theorem d_MC_mark_37 : decode b_MC_mark 37 = .ok (.iload_n 1, 1) := by decide +kernel
theorem d_MC_mark_38 : decode b_MC_mark 38 = .ok (.iaload, 1) := by decide +kernel
theorem d_MC_mark_39 : decode b_MC_mark 39 = .ok (.iload_n 2, 1) := by decide +kernel
theorem d_MC_mark_40 : decode b_MC_mark 40 = .ok (.invokestatic 161, 3) := by decide +kernel
theorem d_MC_mark_43 : decode b_MC_mark 43 = .ok (.ireturn, 1) := by decide +kernel
theorem d_MC_packed_0 : decode b_MC_packed 0 = .ok (.aload_n 0, 1) := by decide +kernel
theorem d_MC_packed_1 : decode b_MC_packed 1 = .ok (.iload_n 1, 1) := by decide +kernel
theorem d_MC_packed_2 : decode b_MC_packed 2 = .ok (.invokevirtual 207, 3) := by decide +kernel
theorem d_MC_packed_5 : decode b_MC_packed 5 = .ok (.ifCond .ne 7, 3) := by decide +kernel
theorem d_MC_packed_8 : decode b_MC_packed 8 = .ok (.ldc2_w 234, 3) := by decide +kernel
theorem d_MC_packed_11 : decode b_MC_packed 11 = .ok (.lreturn, 1) := by decide +kernel
theorem d_MC_packed_12 : decode b_MC_packed 12 = .ok (.aload_n 0, 1) := by decide +kernel
theorem d_MC_packed_13 : decode b_MC_packed 13 = .ok (.getfield 28, 3) := by decide +kernel
theorem d_MC_packed_16 : decode b_MC_packed 16 = .ok (.getfield 225, 3) := by decide +kernel
theorem d_MC_packed_19 : decode b_MC_packed 19 = .ok (.iload_n 1, 1) := by decide +kernel
theorem d_MC_packed_20 : decode b_MC_packed 20 = .ok (.iaload, 1) := by decide +kernel
theorem d_MC_packed_21 : decode b_MC_packed 21 = .ok (.aload_n 0, 1) := by decide +kernel
theorem d_MC_packed_22 : decode b_MC_packed 22 = .ok (.getfield 28, 3) := by decide +kernel
theorem d_MC_packed_25 : decode b_MC_packed 25 = .ok (.getfield 222, 3) := by decide +kernel
theorem d_MC_packed_28 : decode b_MC_packed 28 = .ok (.iload_n 1, 1) := by decide +kernel
theorem d_MC_packed_29 : decode b_MC_packed 29 = .ok (.iaload, 1) := by decide +kernel
theorem d_MC_packed_30 : decode b_MC_packed 30 = .ok (.invokestatic 236, 3) := by decide +kernel
theorem d_MC_packed_33 : decode b_MC_packed 33 = .ok (.lreturn, 1) := by decide +kernel
theorem d_MC_open_0 : decode b_MC_open 0 = .ok (.lload_n 1, 1) := by decide +kernel
theorem d_MC_open_1 : decode b_MC_open 1 = .ok (.invokestatic 240, 3) := by decide +kernel
theorem d_MC_open_4 : decode b_MC_open 4 = .ok (.istore 4, 2) := by decide +kernel
theorem d_MC_open_6 : decode b_MC_open 6 = .ok (.iload_n 3, 1) := by decide +kernel
theorem d_MC_open_7 : decode b_MC_open 7 = .ok (.bipush 10, 2) := by decide +kernel
theorem d_MC_open_9 : decode b_MC_open 9 = .ok (.if_icmp .lt 13, 3) := by decide +kernel
theorem d_MC_open_12 : decode b_MC_open 12 = .ok (.iload_n 3, 1) := by decide +kernel
theorem d_MC_open_13 : decode b_MC_open 13 = .ok (.bipush 18, 2) := by decide +kernel
theorem d_MC_open_15 : decode b_MC_open 15 = .ok (.if_icmp .ge 7, 3) := by decide +kernel
theorem d_MC_open_18 : decode b_MC_open 18 = .ok (.iconst 1, 1) := by decide +kernel
theorem d_MC_open_19 : decode b_MC_open 19 = .ok (.goto 4, 3) := by decide +kernel
theorem d_MC_open_22 : decode b_MC_open 22 = .ok (.iconst 0, 1) := by decide +kernel
theorem d_MC_open_23 : decode b_MC_open 23 = .ok (.istore 5, 2) := by decide +kernel
theorem d_MC_open_25 : decode b_MC_open 25 = .ok (.iload 4, 2) := by decide +kernel
theorem d_MC_open_27 : decode b_MC_open 27 = .ok (.iconst (-1), 1) := by decide +kernel
theorem d_MC_open_28 : decode b_MC_open 28 = .ok (.if_icmp .eq 17, 3) := by decide +kernel
theorem d_MC_open_31 : decode b_MC_open 31 = .ok (.iload_n 3, 1) := by decide +kernel
theorem d_MC_open_32 : decode b_MC_open 32 = .ok (.ifCond .eq 15, 3) := by decide +kernel
theorem d_MC_open_35 : decode b_MC_open 35 = .ok (.iload_n 3, 1) := by decide +kernel
theorem d_MC_open_36 : decode b_MC_open 36 = .ok (.iconst 1, 1) := by decide +kernel
theorem d_MC_open_37 : decode b_MC_open 37 = .ok (.if_icmp .eq 10, 3) := by decide +kernel
theorem d_MC_open_40 : decode b_MC_open 40 = .ok (.iload 5, 2) := by decide +kernel
theorem d_MC_open_42 : decode b_MC_open 42 = .ok (.ifCond .ne 5, 3) := by decide +kernel
theorem d_MC_open_45 : decode b_MC_open 45 = .ok (.iconst (-1), 1) := by decide +kernel
theorem d_MC_open_46 : decode b_MC_open 46 = .ok (.ireturn, 1) := by decide +kernel
theorem d_MC_open_47 : decode b_MC_open 47 = .ok (.iload_n 3, 1) := by decide +kernel
theorem d_MC_open_48 : decode b_MC_open 48 = .ok (.ifCond .ne 10, 3) := by decide +kernel
theorem d_MC_open_51 : decode b_MC_open 51 = .ok (.lload_n 1, 1) := by decide +kernel
theorem d_MC_open_52 : decode b_MC_open 52 = .ok (.ldc2_w 244, 3) := by decide +kernel
theorem d_MC_open_55 : decode b_MC_open 55 = .ok (.lrem, 1) := by decide +kernel
theorem d_MC_open_56 : decode b_MC_open 56 = .ok (.l2i, 1) := by decide +kernel
theorem d_MC_open_57 : decode b_MC_open 57 = .ok (.ireturn, 1) := by decide +kernel
theorem d_MC_open_58 : decode b_MC_open 58 = .ok (.iload_n 3, 1) := by decide +kernel
theorem d_MC_open_59 : decode b_MC_open 59 = .ok (.iconst 1, 1) := by decide +kernel
theorem d_MC_open_60 : decode b_MC_open 60 = .ok (.if_icmp .ne 9, 3) := by decide +kernel
theorem d_MC_open_63 : decode b_MC_open 63 = .ok (.iload 4, 2) := by decide +kernel
theorem d_MC_open_65 : decode b_MC_open 65 = .ok (.invokestatic 168, 3) := by decide +kernel
theorem d_MC_open_68 : decode b_MC_open 68 = .ok (.ireturn, 1) := by decide +kernel
theorem d_MC_open_69 : decode b_MC_open 69 = .ok (.iload_n 3, 1) := by decide +kernel
theorem d_MC_open_70 : decode b_MC_open 70 = .ok (.bipush 10, 2) := by decide +kernel
theorem d_MC_open_72 : decode b_MC_open 72 = .ok (.isub, 1) := by decide +kernel
theorem d_MC_open_73 : decode b_MC_open 73 = .ok (.iload 4, 2) := by decide +kernel
theorem d_MC_open_75 : decode b_MC_open 75 = .ok (.invokestatic 168, 3) := by decide +kernel
theorem d_MC_open_78 : decode b_MC_open 78 = .ok (.if_icmp .ge 15, 3) := by decide +kernel
theorem d_MC_open_81 : decode b_MC_open 81 = .ok (.iload 4, 2) := by decide +kernel
theorem d_MC_open_83 : decode b_MC_open 83 = .ok (.iload_n 3, 1) := by decide +kernel
theorem d_MC_open_84 : decode b_MC_open 84 = .ok (.bipush 10, 2) := by decide +kernel
theorem d_MC_open_86 : decode b_MC_open 86 = .ok (.isub, 1) := by decide +kernel
theorem d_MC_open_87 : decode b_MC_open 87 = .ok (.invokestatic 161, 3) := by decide +kernel
theorem d_MC_open_90 : decode b_MC_open 90 = .ok (.goto 5, 3) := by decide +kernel
theorem d_MC_open_93 : decode b_MC_open 93 = .ok (.bipush (-2), 2) := by decide +kernel
theorem d_MC_open_95 : decode b_MC_open 95 = .ok (.ireturn, 1) := by decide +kernel
theorem d_MC_isRoundOrNone_0 : decode b_MC_isRoundOrNone 0 = .ok (.iload_n 0, 1) := by decide +kernel
theorem d_MC_isRoundOrNone_1 : decode b_MC_isRoundOrNone 1 = .ok (.iconst (-1), 1) := by decide +kernel
theorem d_MC_isRoundOrNone_2 : decode b_MC_isRoundOrNone 2 = .ok (.if_icmp .eq 14, 3) := by decide +kernel
theorem d_MC_isRoundOrNone_5 : decode b_MC_isRoundOrNone 5 = .ok (.iload_n 0, 1) := by decide +kernel
theorem d_MC_isRoundOrNone_6 : decode b_MC_isRoundOrNone 6 = .ok (.iconst 1, 1) := by decide +kernel
theorem d_MC_isRoundOrNone_7 : decode b_MC_isRoundOrNone 7 = .ok (.if_icmp .lt 13, 3) := by decide +kernel
theorem d_MC_isRoundOrNone_10 : decode b_MC_isRoundOrNone 10 = .ok (.iload_n 0, 1) := by decide +kernel
theorem d_MC_isRoundOrNone_11 : decode b_MC_isRoundOrNone 11 = .ok (.bipush 8, 2) := by decide +kernel
theorem d_MC_isRoundOrNone_13 : decode b_MC_isRoundOrNone 13 = .ok (.if_icmp .gt 7, 3) := by decide +kernel
theorem d_MC_isRoundOrNone_16 : decode b_MC_isRoundOrNone 16 = .ok (.iconst 1, 1) := by decide +kernel
theorem d_MC_isRoundOrNone_17 : decode b_MC_isRoundOrNone 17 = .ok (.goto 4, 3) := by decide +kernel
theorem d_MC_isRoundOrNone_20 : decode b_MC_isRoundOrNone 20 = .ok (.iconst 0, 1) := by decide +kernel
theorem d_MC_isRoundOrNone_21 : decode b_MC_isRoundOrNone 21 = .ok (.ireturn, 1) := by decide +kernel
theorem d_MC_sent_0 : decode b_MC_sent 0 = .ok (.aload_n 0, 1) := by decide +kernel
theorem d_MC_sent_1 : decode b_MC_sent 1 = .ok (.getfield 10, 3) := by decide +kernel
theorem d_MC_sent_4 : decode b_MC_sent 4 = .ok (.getfield 71, 3) := by decide +kernel
theorem d_MC_sent_7 : decode b_MC_sent 7 = .ok (.ifCond .eq 10, 3) := by decide +kernel
theorem d_MC_sent_10 : decode b_MC_sent 10 = .ok (.iload_n 1, 1) := by decide +kernel
theorem d_MC_sent_11 : decode b_MC_sent 11 = .ok (.invokestatic 246, 3) := by decide +kernel
theorem d_MC_sent_14 : decode b_MC_sent 14 = .ok (.ifCond .ne 5, 3) := by decide +kernel
theorem d_MC_sent_17 : decode b_MC_sent 17 = .ok (.iconst (-1), 1) := by decide +kernel
theorem d_MC_sent_18 : decode b_MC_sent 18 = .ok (.ireturn, 1) := by decide +kernel
theorem d_MC_sent_19 : decode b_MC_sent 19 = .ok (.iload_n 1, 1) := by decide +kernel
theorem d_MC_sent_20 : decode b_MC_sent 20 = .ok (.iconst (-1), 1) := by decide +kernel
theorem d_MC_sent_21 : decode b_MC_sent 21 = .ok (.if_icmp .ne 13, 3) := by decide +kernel
theorem d_MC_sent_24 : decode b_MC_sent 24 = .ok (.aload_n 0, 1) := by decide +kernel
theorem d_MC_sent_25 : decode b_MC_sent 25 = .ok (.getfield 28, 3) := by decide +kernel
theorem d_MC_sent_28 : decode b_MC_sent 28 = .ok (.getfield 204, 3) := by decide +kernel
theorem d_MC_sent_31 : decode b_MC_sent 31 = .ok (.goto 11, 3) := by decide +kernel
theorem d_MC_sent_34 : decode b_MC_sent 34 = .ok (.aload_n 0, 1) := by decide +kernel
theorem d_MC_sent_35 : decode b_MC_sent 35 = .ok (.getfield 28, 3) := by decide +kernel
theorem d_MC_sent_38 : decode b_MC_sent 38 = .ok (.iload_n 1, 1) := by decide +kernel
theorem d_MC_sent_39 : decode b_MC_sent 39 = .ok (.invokevirtual 249, 3) := by decide +kernel
theorem d_MC_sent_42 : decode b_MC_sent 42 = .ok (.ireturn, 1) := by decide +kernel
theorem d_MC_forged_0 : decode b_MC_forged 0 = .ok (.iload_n 1, 1) := by decide +kernel
theorem d_MC_forged_1 : decode b_MC_forged 1 = .ok (.ifCond .ne 11, 3) := by decide +kernel
theorem d_MC_forged_4 : decode b_MC_forged 4 = .ok (.aload_n 0, 1) := by decide +kernel
theorem d_MC_forged_5 : decode b_MC_forged 5 = .ok (.getfield 28, 3) := by decide +kernel
theorem d_MC_forged_8 : decode b_MC_forged 8 = .ok (.getfield 252, 3) := by decide +kernel
theorem d_MC_forged_11 : decode b_MC_forged 11 = .ok (.ireturn, 1) := by decide +kernel
theorem d_MC_forged_12 : decode b_MC_forged 12 = .ok (.iload_n 1, 1) := by decide +kernel
theorem d_MC_forged_13 : decode b_MC_forged 13 = .ok (.iconst 1, 1) := by decide +kernel
theorem d_MC_forged_14 : decode b_MC_forged 14 = .ok (.if_icmp .ne 13, 3) := by decide +kernel
theorem d_MC_forged_17 : decode b_MC_forged 17 = .ok (.aload_n 0, 1) := by decide +kernel
theorem d_MC_forged_18 : decode b_MC_forged 18 = .ok (.getfield 10, 3) := by decide +kernel
theorem d_MC_forged_21 : decode b_MC_forged 21 = .ok (.invokevirtual 255, 3) := by decide +kernel
theorem d_MC_forged_24 : decode b_MC_forged 24 = .ok (.goto 4, 3) := by decide +kernel
theorem d_MC_forged_27 : decode b_MC_forged 27 = .ok (.iconst (-1), 1) := by decide +kernel
theorem d_MC_forged_28 : decode b_MC_forged 28 = .ok (.ireturn, 1) := by decide +kernel
theorem d_MC_known_0 : decode b_MC_known 0 = .ok (.aload_n 0, 1) := by decide +kernel
theorem d_MC_known_1 : decode b_MC_known 1 = .ok (.getfield 10, 3) := by decide +kernel
theorem d_MC_known_4 : decode b_MC_known 4 = .ok (.iload_n 1, 1) := by decide +kernel
theorem d_MC_known_5 : decode b_MC_known 5 = .ok (.invokevirtual 85, 3) := by decide +kernel
theorem d_MC_known_8 : decode b_MC_known 8 = .ok (.ifCond .eq 10, 3) := by decide +kernel
theorem d_MC_known_11 : decode b_MC_known 11 = .ok (.iload_n 2, 1) := by decide +kernel
theorem d_MC_known_12 : decode b_MC_known 12 = .ok (.invokestatic 102, 3) := by decide +kernel
theorem d_MC_known_15 : decode b_MC_known 15 = .ok (.ifCond .ne 5, 3) := by decide +kernel
theorem d_MC_known_18 : decode b_MC_known 18 = .ok (.iconst (-1), 1) := by decide +kernel
theorem d_MC_known_19 : decode b_MC_known 19 = .ok (.ireturn, 1) := by decide +kernel
theorem d_MC_known_20 : decode b_MC_known 20 = .ok (.aload_n 0, 1) := by decide +kernel
theorem d_MC_known_21 : decode b_MC_known 21 = .ok (.getfield 28, 3) := by decide +kernel
theorem d_MC_known_24 : decode b_MC_known 24 = .ok (.getfield 258, 3) := by decide +kernel
theorem d_MC_known_27 : decode b_MC_known 27 = .ok (.iload_n 1, 1) := by decide +kernel
theorem d_MC_known_28 : decode b_MC_known 28 = .ok (.iload_n 2, 1) := by decide +kernel
theorem d_MC_known_29 : decode b_MC_known 29 = .ok (.invokestatic 186, 3) := by decide +kernel
theorem d_MC_known_32 : decode b_MC_known 32 = .ok (.iaload, 1) := by decide +kernel
theorem d_MC_known_33 : decode b_MC_known 33 = .ok (.istore_n 3, 1) := by decide +kernel
theorem d_MC_known_34 : decode b_MC_known 34 = .ok (.iload_n 3, 1) := by decide +kernel
theorem d_MC_known_35 : decode b_MC_known 35 = .ok (.bipush 99, 2) := by decide +kernel
theorem d_MC_known_37 : decode b_MC_known 37 = .ok (.if_icmp .ne 8, 3) := by decide +kernel
theorem d_MC_known_40 : decode b_MC_known 40 = .ok (.bipush (-2), 2) := by decide +kernel
theorem d_MC_known_42 : decode b_MC_known 42 = .ok (.goto 4, 3) := by decide +kernel
theorem d_MC_known_45 : decode b_MC_known 45 = .ok (.iload_n 3, 1) := by decide +kernel
theorem d_MC_known_46 : decode b_MC_known 46 = .ok (.ireturn, 1) := by decide +kernel
theorem d_MC_bits_0 : decode b_MC_bits 0 = .ok (.aload_n 0, 1) := by decide +kernel
theorem d_MC_bits_1 : decode b_MC_bits 1 = .ok (.getfield 10, 3) := by decide +kernel
theorem d_MC_bits_4 : decode b_MC_bits 4 = .ok (.getfield 71, 3) := by decide +kernel
theorem d_MC_bits_7 : decode b_MC_bits 7 = .ok (.ifCond .eq 10, 3) := by decide +kernel
theorem d_MC_bits_10 : decode b_MC_bits 10 = .ok (.iload_n 1, 1) := by decide +kernel
theorem d_MC_bits_11 : decode b_MC_bits 11 = .ok (.invokestatic 246, 3) := by decide +kernel
theorem d_MC_bits_14 : decode b_MC_bits 14 = .ok (.ifCond .ne 5, 3) := by decide +kernel
theorem d_MC_bits_17 : decode b_MC_bits 17 = .ok (.iconst (-1), 1) := by decide +kernel
theorem d_MC_bits_18 : decode b_MC_bits 18 = .ok (.ireturn, 1) := by decide +kernel
theorem d_MC_bits_19 : decode b_MC_bits 19 = .ok (.iload_n 1, 1) := by decide +kernel
theorem d_MC_bits_20 : decode b_MC_bits 20 = .ok (.iconst (-1), 1) := by decide +kernel
theorem d_MC_bits_21 : decode b_MC_bits 21 = .ok (.if_icmp .ne 13, 3) := by decide +kernel
theorem d_MC_bits_24 : decode b_MC_bits 24 = .ok (.aload_n 0, 1) := by decide +kernel
theorem d_MC_bits_25 : decode b_MC_bits 25 = .ok (.getfield 28, 3) := by decide +kernel
theorem d_MC_bits_28 : decode b_MC_bits 28 = .ok (.invokevirtual 261, 3) := by decide +kernel
theorem d_MC_bits_31 : decode b_MC_bits 31 = .ok (.goto 11, 3) := by decide +kernel
theorem d_MC_bits_34 : decode b_MC_bits 34 = .ok (.aload_n 0, 1) := by decide +kernel
theorem d_MC_bits_35 : decode b_MC_bits 35 = .ok (.getfield 28, 3) := by decide +kernel
theorem d_MC_bits_38 : decode b_MC_bits 38 = .ok (.iload_n 1, 1) := by decide +kernel
theorem d_MC_bits_39 : decode b_MC_bits 39 = .ok (.invokevirtual 264, 3) := by decide +kernel
theorem d_MC_bits_42 : decode b_MC_bits 42 = .ok (.ireturn, 1) := by decide +kernel
theorem d_MC_load_0 : decode b_MC_load 0 = .ok (.aload_n 0, 1) := by decide +kernel
theorem d_MC_load_1 : decode b_MC_load 1 = .ok (.getfield 10, 3) := by decide +kernel
theorem d_MC_load_4 : decode b_MC_load 4 = .ok (.getfield 71, 3) := by decide +kernel
theorem d_MC_load_7 : decode b_MC_load 7 = .ok (.ifCond .ne 5, 3) := by decide +kernel
theorem d_MC_load_10 : decode b_MC_load 10 = .ok (.iconst (-1), 1) := by decide +kernel
theorem d_MC_load_11 : decode b_MC_load 11 = .ok (.ireturn, 1) := by decide +kernel
theorem d_MC_load_12 : decode b_MC_load 12 = .ok (.iload_n 1, 1) := by decide +kernel
theorem d_MC_load_13 : decode b_MC_load 13 = .ok (.iconst (-1), 1) := by decide +kernel
theorem d_MC_load_14 : decode b_MC_load 14 = .ok (.if_icmp .ne 11, 3) := by decide +kernel
theorem d_MC_load_17 : decode b_MC_load 17 = .ok (.aload_n 0, 1) := by decide +kernel
theorem d_MC_load_18 : decode b_MC_load 18 = .ok (.getfield 28, 3) := by decide +kernel
theorem d_MC_load_21 : decode b_MC_load 21 = .ok (.invokevirtual 267, 3) := by decide +kernel
theorem d_MC_load_24 : decode b_MC_load 24 = .ok (.ireturn, 1) := by decide +kernel
theorem d_MC_load_25 : decode b_MC_load 25 = .ok (.aload_n 0, 1) := by decide +kernel
theorem d_MC_load_26 : decode b_MC_load 26 = .ok (.getfield 10, 3) := by decide +kernel
theorem d_MC_load_29 : decode b_MC_load 29 = .ok (.iload_n 1, 1) := by decide +kernel
theorem d_MC_load_30 : decode b_MC_load 30 = .ok (.invokevirtual 85, 3) := by decide +kernel
theorem d_MC_load_33 : decode b_MC_load 33 = .ok (.ifCond .eq 19, 3) := by decide +kernel
theorem d_MC_load_36 : decode b_MC_load 36 = .ok (.aload_n 0, 1) := by decide +kernel
theorem d_MC_load_37 : decode b_MC_load 37 = .ok (.getfield 10, 3) := by decide +kernel
theorem d_MC_load_40 : decode b_MC_load 40 = .ok (.iload_n 2, 1) := by decide +kernel
theorem d_MC_load_41 : decode b_MC_load 41 = .ok (.invokevirtual 85, 3) := by decide +kernel
theorem d_MC_load_44 : decode b_MC_load 44 = .ok (.ifCond .eq 8, 3) := by decide +kernel
theorem d_MC_load_47 : decode b_MC_load 47 = .ok (.iload_n 1, 1) := by decide +kernel
theorem d_MC_load_48 : decode b_MC_load 48 = .ok (.iload_n 2, 1) := by decide +kernel
theorem d_MC_load_49 : decode b_MC_load 49 = .ok (.if_icmp .ne 5, 3) := by decide +kernel
theorem d_MC_load_52 : decode b_MC_load 52 = .ok (.iconst (-1), 1) := by decide +kernel
theorem d_MC_load_53 : decode b_MC_load 53 = .ok (.ireturn, 1) := by decide +kernel
theorem d_MC_load_54 : decode b_MC_load 54 = .ok (.aload_n 0, 1) := by decide +kernel
theorem d_MC_load_55 : decode b_MC_load 55 = .ok (.getfield 28, 3) := by decide +kernel
theorem d_MC_load_58 : decode b_MC_load 58 = .ok (.iload_n 1, 1) := by decide +kernel
theorem d_MC_load_59 : decode b_MC_load 59 = .ok (.iload_n 2, 1) := by decide +kernel
theorem d_MC_load_60 : decode b_MC_load 60 = .ok (.invokevirtual 270, 3) := by decide +kernel
theorem d_MC_load_63 : decode b_MC_load 63 = .ok (.ireturn, 1) := by decide +kernel
theorem d_MC_alike_0 : decode b_MC_alike 0 = .ok (.aload_n 0, 1) := by decide +kernel
theorem d_MC_alike_1 : decode b_MC_alike 1 = .ok (.getfield 28, 3) := by decide +kernel
theorem d_MC_alike_4 : decode b_MC_alike 4 = .ok (.aload_n 0, 1) := by decide +kernel
theorem d_MC_alike_5 : decode b_MC_alike 5 = .ok (.getfield 10, 3) := by decide +kernel
theorem d_MC_alike_8 : decode b_MC_alike 8 = .ok (.invokevirtual 273, 3) := by decide +kernel
theorem d_MC_alike_11 : decode b_MC_alike 11 = .ok (.invokevirtual 276, 3) := by decide +kernel
theorem d_MC_alike_14 : decode b_MC_alike 14 = .ok (.ifCond .eq 7, 3) := by decide +kernel
theorem d_MC_alike_17 : decode b_MC_alike 17 = .ok (.iconst 1, 1) := by decide +kernel
theorem d_MC_alike_18 : decode b_MC_alike 18 = .ok (.goto 4, 3) := by decide +kernel
theorem d_MC_alike_21 : decode b_MC_alike 21 = .ok (.iconst 0, 1) := by decide +kernel
theorem d_MC_alike_22 : decode b_MC_alike 22 = .ok (.ireturn, 1) := by decide +kernel
theorem d_MC_valid_0 : decode b_MC_valid 0 = .ok (.aload_n 0, 1) := by decide +kernel
theorem d_MC_valid_1 : decode b_MC_valid 1 = .ok (.getfield 10, 3) := by decide +kernel
theorem d_MC_valid_4 : decode b_MC_valid 4 = .ok (.invokevirtual 273, 3) := by decide +kernel
theorem d_MC_valid_7 : decode b_MC_valid 7 = .ok (.istore_n 1, 1) := by decide +kernel
theorem d_MC_valid_8 : decode b_MC_valid 8 = .ok (.iload_n 1, 1) := by decide +kernel
theorem d_MC_valid_9 : decode b_MC_valid 9 = .ok (.aload_n 0, 1) := by decide +kernel
theorem d_MC_valid_10 : decode b_MC_valid 10 = .ok (.getfield 10, 3) := by decide +kernel
theorem d_MC_valid_13 : decode b_MC_valid 13 = .ok (.getfield 78, 3) := by decide +kernel
theorem d_MC_valid_16 : decode b_MC_valid 16 = .ok (.iconst 0, 1) := by decide +kernel
theorem d_MC_valid_17 : decode b_MC_valid 17 = .ok (.iaload, 1) := by decide +kernel
theorem d_MC_valid_18 : decode b_MC_valid 18 = .ok (.ishr, 1) := by decide +kernel
theorem d_MC_valid_19 : decode b_MC_valid 19 = .ok (.iconst 1, 1) := by decide +kernel
theorem d_MC_valid_20 : decode b_MC_valid 20 = .ok (.iand, 1) := by decide +kernel
theorem d_MC_valid_21 : decode b_MC_valid 21 = .ok (.ifCond .ne 5, 3) := by decide +kernel
theorem d_MC_valid_24 : decode b_MC_valid 24 = .ok (.iconst 1, 1) := by decide +kernel
theorem d_MC_valid_25 : decode b_MC_valid 25 = .ok (.ireturn, 1) := by decide +kernel
theorem d_MC_valid_26 : decode b_MC_valid 26 = .ok (.iconst 0, 1) := by decide +kernel
theorem d_MC_valid_27 : decode b_MC_valid 27 = .ok (.istore_n 2, 1) := by decide +kernel
theorem d_MC_valid_28 : decode b_MC_valid 28 = .ok (.iload_n 2, 1) := by decide +kernel
theorem d_MC_valid_29 : decode b_MC_valid 29 = .ok (.aload_n 0, 1) := by decide +kernel
theorem d_MC_valid_30 : decode b_MC_valid 30 = .ok (.getfield 10, 3) := by decide +kernel
theorem d_MC_valid_33 : decode b_MC_valid 33 = .ok (.getfield 71, 3) := by decide +kernel
theorem d_MC_valid_36 : decode b_MC_valid 36 = .ok (.if_icmp .ge 49, 3) := by decide +kernel
theorem d_MC_valid_39 : decode b_MC_valid 39 = .ok (.iload_n 1, 1) := by decide +kernel
theorem d_MC_valid_40 : decode b_MC_valid 40 = .ok (.iload_n 2, 1) := by decide +kernel
theorem d_MC_valid_41 : decode b_MC_valid 41 = .ok (.ishr, 1) := by decide +kernel
theorem d_MC_valid_42 : decode b_MC_valid 42 = .ok (.iconst 1, 1) := by decide +kernel
theorem d_MC_valid_43 : decode b_MC_valid 43 = .ok (.iand, 1) := by decide +kernel
theorem d_MC_valid_44 : decode b_MC_valid 44 = .ok (.ifCond .eq 7, 3) := by decide +kernel
theorem d_MC_valid_47 : decode b_MC_valid 47 = .ok (.iconst 1, 1) := by decide +kernel
theorem d_MC_valid_48 : decode b_MC_valid 48 = .ok (.goto 4, 3) := by decide +kernel
theorem d_MC_valid_51 : decode b_MC_valid 51 = .ok (.iconst 0, 1) := by decide +kernel
theorem d_MC_valid_52 : decode b_MC_valid 52 = .ok (.istore_n 3, 1) := by decide +kernel
theorem d_MC_valid_53 : decode b_MC_valid 53 = .ok (.iload_n 3, 1) := by decide +kernel
theorem d_MC_valid_54 : decode b_MC_valid 54 = .ok (.ifCond .eq 25, 3) := by decide +kernel
theorem d_MC_valid_57 : decode b_MC_valid 57 = .ok (.aload_n 0, 1) := by decide +kernel
theorem d_MC_valid_58 : decode b_MC_valid 58 = .ok (.getfield 28, 3) := by decide +kernel
theorem d_MC_valid_61 : decode b_MC_valid 61 = .ok (.iload_n 2, 1) := by decide +kernel
theorem d_MC_valid_62 : decode b_MC_valid 62 = .ok (.invokevirtual 183, 3) := by decide +kernel
theorem d_MC_valid_65 : decode b_MC_valid 65 = .ok (.aload_n 0, 1) := by decide +kernel
theorem d_MC_valid_66 : decode b_MC_valid 66 = .ok (.getfield 10, 3) := by decide +kernel
theorem d_MC_valid_69 : decode b_MC_valid 69 = .ok (.getfield 78, 3) := by decide +kernel
theorem d_MC_valid_72 : decode b_MC_valid 72 = .ok (.iconst 1, 1) := by decide +kernel
theorem d_MC_valid_73 : decode b_MC_valid 73 = .ok (.iaload, 1) := by decide +kernel
theorem d_MC_valid_74 : decode b_MC_valid 74 = .ok (.if_icmp .eq 5, 3) := by decide +kernel
theorem d_MC_valid_77 : decode b_MC_valid 77 = .ok (.iconst 0, 1) := by decide +kernel
theorem d_MC_valid_78 : decode b_MC_valid 78 = .ok (.ireturn, 1) := by decide +kernel
theorem d_MC_valid_79 : decode b_MC_valid 79 = .ok (.iinc 2 1, 3) := by decide +kernel
theorem d_MC_valid_82 : decode b_MC_valid 82 = .ok (.goto (-54), 3) := by decide +kernel
theorem d_MC_valid_85 : decode b_MC_valid 85 = .ok (.iconst 1, 1) := by decide +kernel
theorem d_MC_valid_86 : decode b_MC_valid 86 = .ok (.ireturn, 1) := by decide +kernel
theorem d_MC_sound_0 : decode b_MC_sound 0 = .ok (.aload_n 0, 1) := by decide +kernel
theorem d_MC_sound_1 : decode b_MC_sound 1 = .ok (.getfield 10, 3) := by decide +kernel
theorem d_MC_sound_4 : decode b_MC_sound 4 = .ok (.invokevirtual 273, 3) := by decide +kernel
theorem d_MC_sound_7 : decode b_MC_sound 7 = .ok (.ireturn, 1) := by decide +kernel
theorem d_MC_calm_0 : decode b_MC_calm 0 = .ok (.aload_n 0, 1) := by decide +kernel
theorem d_MC_calm_1 : decode b_MC_calm 1 = .ok (.getfield 10, 3) := by decide +kernel
theorem d_MC_calm_4 : decode b_MC_calm 4 = .ok (.getfield 71, 3) := by decide +kernel
theorem d_MC_calm_7 : decode b_MC_calm 7 = .ok (.ifCond .eq 12, 3) := by decide +kernel
theorem d_MC_calm_10 : decode b_MC_calm 10 = .ok (.iload_n 1, 1) := by decide +kernel
theorem d_MC_calm_11 : decode b_MC_calm 11 = .ok (.ifCond .lt 8, 3) := by decide +kernel
theorem d_MC_calm_14 : decode b_MC_calm 14 = .ok (.iload_n 1, 1) := by decide +kernel
theorem d_MC_calm_15 : decode b_MC_calm 15 = .ok (.iconst 1, 1) := by decide +kernel
theorem d_MC_calm_16 : decode b_MC_calm 16 = .ok (.if_icmp .le 5, 3) := by decide +kernel
theorem d_MC_calm_19 : decode b_MC_calm 19 = .ok (.iconst (-1), 1) := by decide +kernel
theorem d_MC_calm_20 : decode b_MC_calm 20 = .ok (.ireturn, 1) := by decide +kernel
theorem d_MC_calm_21 : decode b_MC_calm 21 = .ok (.iload_n 1, 1) := by decide +kernel
theorem d_MC_calm_22 : decode b_MC_calm 22 = .ok (.ifCond .ne 13, 3) := by decide +kernel
theorem d_MC_calm_25 : decode b_MC_calm 25 = .ok (.aload_n 0, 1) := by decide +kernel
theorem d_MC_calm_26 : decode b_MC_calm 26 = .ok (.getfield 28, 3) := by decide +kernel
theorem d_MC_calm_29 : decode b_MC_calm 29 = .ok (.invokevirtual 279, 3) := by decide +kernel
theorem d_MC_calm_32 : decode b_MC_calm 32 = .ok (.goto 17, 3) := by decide +kernel
theorem d_MC_calm_35 : decode b_MC_calm 35 = .ok (.aload_n 0, 1) := by decide +kernel
theorem d_MC_calm_36 : decode b_MC_calm 36 = .ok (.getfield 28, 3) := by decide +kernel
theorem d_MC_calm_39 : decode b_MC_calm 39 = .ok (.aload_n 0, 1) := by decide +kernel
theorem d_MC_calm_40 : decode b_MC_calm 40 = .ok (.getfield 10, 3) := by decide +kernel
theorem d_MC_calm_43 : decode b_MC_calm 43 = .ok (.invokevirtual 273, 3) := by decide +kernel
theorem d_MC_calm_46 : decode b_MC_calm 46 = .ok (.invokevirtual 282, 3) := by decide +kernel
theorem d_MC_calm_49 : decode b_MC_calm 49 = .ok (.ireturn, 1) := by decide +kernel
theorem d_MC_partsWith_0 : decode b_MC_partsWith 0 = .ok (.aload_n 0, 1) := by decide +kernel
theorem d_MC_partsWith_1 : decode b_MC_partsWith 1 = .ok (.getfield 32, 3) := by decide +kernel
theorem d_MC_partsWith_4 : decode b_MC_partsWith 4 = .ok (.iconst 0, 1) := by decide +kernel
theorem d_MC_partsWith_5 : decode b_MC_partsWith 5 = .ok (.invokevirtual 293, 3) := by decide +kernel
theorem d_MC_partsWith_8 : decode b_MC_partsWith 8 = .ok (.aload_n 0, 1) := by decide +kernel
theorem d_MC_partsWith_9 : decode b_MC_partsWith 9 = .ok (.getfield 32, 3) := by decide +kernel
theorem d_MC_partsWith_12 : decode b_MC_partsWith 12 = .ok (.iload_n 2, 1) := by decide +kernel
theorem d_MC_partsWith_13 : decode b_MC_partsWith 13 = .ok (.iconst (-1), 1) := by decide +kernel
theorem d_MC_partsWith_14 : decode b_MC_partsWith 14 = .ok (.ixor, 1) := by decide +kernel
theorem d_MC_partsWith_15 : decode b_MC_partsWith 15 = .ok (.iload_n 1, 1) := by decide +kernel
theorem d_MC_partsWith_16 : decode b_MC_partsWith 16 = .ok (.ior, 1) := by decide +kernel
theorem d_MC_partsWith_17 : decode b_MC_partsWith 17 = .ok (.putfield 296, 3) := by decide +kernel
theorem d_MC_partsWith_20 : decode b_MC_partsWith 20 = .ok (.aload_n 0, 1) := by decide +kernel
theorem d_MC_partsWith_21 : decode b_MC_partsWith 21 = .ok (.getfield 32, 3) := by decide +kernel
theorem d_MC_partsWith_24 : decode b_MC_partsWith 24 = .ok (.invokevirtual 299, 3) := by decide +kernel
theorem d_MC_partsWith_27 : decode b_MC_partsWith 27 = .ok (.aload_n 0, 1) := by decide +kernel
theorem d_MC_partsWith_28 : decode b_MC_partsWith 28 = .ok (.getfield 32, 3) := by decide +kernel
theorem d_MC_partsWith_31 : decode b_MC_partsWith 31 = .ok (.iload_n 3, 1) := by decide +kernel
theorem d_MC_partsWith_32 : decode b_MC_partsWith 32 = .ok (.invokevirtual 276, 3) := by decide +kernel
theorem d_MC_partsWith_35 : decode b_MC_partsWith 35 = .ok (.ifCond .ne 7, 3) := by decide +kernel
theorem d_MC_partsWith_38 : decode b_MC_partsWith 38 = .ok (.iconst 1, 1) := by decide +kernel
theorem d_MC_partsWith_39 : decode b_MC_partsWith 39 = .ok (.goto 4, 3) := by decide +kernel
theorem d_MC_partsWith_42 : decode b_MC_partsWith 42 = .ok (.iconst 0, 1) := by decide +kernel
theorem d_MC_partsWith_43 : decode b_MC_partsWith 43 = .ok (.ireturn, 1) := by decide +kernel
theorem d_MC_parted_0 : decode b_MC_parted 0 = .ok (.aload_n 0, 1) := by decide +kernel
theorem d_MC_parted_1 : decode b_MC_parted 1 = .ok (.getfield 10, 3) := by decide +kernel
theorem d_MC_parted_4 : decode b_MC_parted 4 = .ok (.getfield 71, 3) := by decide +kernel
theorem d_MC_parted_7 : decode b_MC_parted 7 = .ok (.ifCond .ne 5, 3) := by decide +kernel
theorem d_MC_parted_10 : decode b_MC_parted 10 = .ok (.iconst (-1), 1) := by decide +kernel
theorem d_MC_parted_11 : decode b_MC_parted 11 = .ok (.ireturn, 1) := by decide +kernel
theorem d_MC_parted_12 : decode b_MC_parted 12 = .ok (.aload_n 0, 1) := by decide +kernel
theorem d_MC_parted_13 : decode b_MC_parted 13 = .ok (.getfield 10, 3) := by decide +kernel
theorem d_MC_parted_16 : decode b_MC_parted 16 = .ok (.invokevirtual 273, 3) := by decide +kernel
theorem d_MC_parted_19 : decode b_MC_parted 19 = .ok (.istore_n 1, 1) := by decide +kernel
theorem d_MC_parted_20 : decode b_MC_parted 20 = .ok (.iconst 1, 1) := by decide +kernel
theorem d_MC_parted_21 : decode b_MC_parted 21 = .ok (.aload_n 0, 1) := by decide +kernel
theorem d_MC_parted_22 : decode b_MC_parted 22 = .ok (.getfield 10, 3) := by decide +kernel
theorem d_MC_parted_25 : decode b_MC_parted 25 = .ok (.getfield 108, 3) := by decide +kernel
theorem d_MC_parted_28 : decode b_MC_parted 28 = .ok (.bipush 6, 2) := by decide +kernel
theorem d_MC_parted_30 : decode b_MC_parted 30 = .ok (.invokestatic 285, 3) := by decide +kernel
theorem d_MC_parted_33 : decode b_MC_parted 33 = .ok (.ishl, 1) := by decide +kernel
theorem d_MC_parted_34 : decode b_MC_parted 34 = .ok (.iconst 1, 1) := by decide +kernel
theorem d_MC_parted_35 : decode b_MC_parted 35 = .ok (.isub, 1) := by decide +kernel
theorem d_MC_parted_36 : decode b_MC_parted 36 = .ok (.istore_n 2, 1) := by decide +kernel
theorem d_MC_parted_37 : decode b_MC_parted 37 = .ok (.iconst 0, 1) := by decide +kernel
theorem d_MC_parted_38 : decode b_MC_parted 38 = .ok (.istore_n 3, 1) := by decide +kernel
theorem d_MC_parted_39 : decode b_MC_parted 39 = .ok (.iload_n 3, 1) := by decide +kernel
theorem d_MC_parted_40 : decode b_MC_parted 40 = .ok (.bipush 6, 2) := by decide +kernel
theorem d_MC_parted_42 : decode b_MC_parted 42 = .ok (.if_icmp .gt 47, 3) := by decide +kernel
theorem d_MC_parted_45 : decode b_MC_parted 45 = .ok (.iconst 0, 1) := by decide +kernel
theorem d_MC_parted_46 : decode b_MC_parted 46 = .ok (.istore 4, 2) := by decide +kernel
theorem d_MC_parted_48 : decode b_MC_parted 48 = .ok (.iload 4, 2) := by decide +kernel
theorem d_MC_parted_50 : decode b_MC_parted 50 = .ok (.iload_n 2, 1) := by decide +kernel
theorem d_MC_parted_51 : decode b_MC_parted 51 = .ok (.if_icmp .gt 32, 3) := by decide +kernel
theorem d_MC_parted_54 : decode b_MC_parted 54 = .ok (.iload 4, 2) := by decide +kernel
theorem d_MC_parted_56 : decode b_MC_parted 56 = .ok (.invokestatic 146, 3) := by decide +kernel
theorem d_MC_parted_59 : decode b_MC_parted 59 = .ok (.iload_n 3, 1) := by decide +kernel
theorem d_MC_parted_60 : decode b_MC_parted 60 = .ok (.if_icmp .ne 17, 3) := by decide +kernel
theorem d_MC_parted_63 : decode b_MC_parted 63 = .ok (.aload_n 0, 1) := by decide +kernel
theorem d_MC_parted_64 : decode b_MC_parted 64 = .ok (.iload 4, 2) := by decide +kernel
theorem d_MC_parted_66 : decode b_MC_parted 66 = .ok (.iload_n 2, 1) := by decide +kernel
theorem d_MC_parted_67 : decode b_MC_parted 67 = .ok (.iload_n 1, 1) := by decide +kernel
theorem d_MC_parted_68 : decode b_MC_parted 68 = .ok (.invokevirtual 290, 3) := by decide +kernel
theorem d_MC_parted_71 : decode b_MC_parted 71 = .ok (.ifCond .eq 6, 3) := by decide +kernel
theorem d_MC_parted_74 : decode b_MC_parted 74 = .ok (.iload 4, 2) := by decide +kernel
theorem d_MC_parted_76 : decode b_MC_parted 76 = .ok (.ireturn, 1) := by decide +kernel
theorem d_MC_parted_77 : decode b_MC_parted 77 = .ok (.iinc 4 1, 3) := by decide +kernel
theorem d_MC_parted_80 : decode b_MC_parted 80 = .ok (.goto (-32), 3) := by decide +kernel
theorem d_MC_parted_83 : decode b_MC_parted 83 = .ok (.iinc 3 1, 3) := by decide +kernel
theorem d_MC_parted_86 : decode b_MC_parted 86 = .ok (.goto (-47), 3) := by decide +kernel
theorem d_MC_parted_89 : decode b_MC_parted 89 = .ok (.bipush (-2), 2) := by decide +kernel
theorem d_MC_parted_91 : decode b_MC_parted 91 = .ok (.ireturn, 1) := by decide +kernel
theorem d_MC_changesDecisions_0 : decode b_MC_changesDecisions 0 = .ok (.aload_n 0, 1) := by decide +kernel
theorem d_MC_changesDecisions_1 : decode b_MC_changesDecisions 1 = .ok (.getfield 32, 3) := by decide +kernel
theorem d_MC_changesDecisions_4 : decode b_MC_changesDecisions 4 = .ok (.iconst 0, 1) := by decide +kernel
theorem d_MC_changesDecisions_5 : decode b_MC_changesDecisions 5 = .ok (.invokevirtual 293, 3) := by decide +kernel
theorem d_MC_changesDecisions_8 : decode b_MC_changesDecisions 8 = .ok (.aload_n 0, 1) := by decide +kernel
theorem d_MC_changesDecisions_9 : decode b_MC_changesDecisions 9 = .ok (.getfield 32, 3) := by decide +kernel
theorem d_MC_changesDecisions_12 : decode b_MC_changesDecisions 12 = .ok (.getfield 310, 3) := by decide +kernel
theorem d_MC_changesDecisions_15 : decode b_MC_changesDecisions 15 = .ok (.iload_n 1, 1) := by decide +kernel
theorem d_MC_changesDecisions_16 : decode b_MC_changesDecisions 16 = .ok (.iload_n 2, 1) := by decide +kernel
theorem d_MC_changesDecisions_17 : decode b_MC_changesDecisions 17 = .ok (.iastore, 1) := by decide +kernel
theorem d_MC_changesDecisions_18 : decode b_MC_changesDecisions 18 = .ok (.aload_n 0, 1) := by decide +kernel
theorem d_MC_changesDecisions_19 : decode b_MC_changesDecisions 19 = .ok (.getfield 32, 3) := by decide +kernel
theorem d_MC_changesDecisions_22 : decode b_MC_changesDecisions 22 = .ok (.invokevirtual 299, 3) := by decide +kernel
theorem d_MC_changesDecisions_25 : decode b_MC_changesDecisions 25 = .ok (.iconst 0, 1) := by decide +kernel
theorem d_MC_changesDecisions_26 : decode b_MC_changesDecisions 26 = .ok (.istore_n 3, 1) := by decide +kernel
theorem d_MC_changesDecisions_27 : decode b_MC_changesDecisions 27 = .ok (.iload_n 3, 1) := by decide +kernel
theorem d_MC_changesDecisions_28 : decode b_MC_changesDecisions 28 = .ok (.aload_n 0, 1) := by decide +kernel
theorem d_MC_changesDecisions_29 : decode b_MC_changesDecisions 29 = .ok (.getfield 10, 3) := by decide +kernel
theorem d_MC_changesDecisions_32 : decode b_MC_changesDecisions 32 = .ok (.getfield 71, 3) := by decide +kernel
theorem d_MC_changesDecisions_35 : decode b_MC_changesDecisions 35 = .ok (.if_icmp .ge 41, 3) := by decide +kernel
theorem d_MC_changesDecisions_38 : decode b_MC_changesDecisions 38 = .ok (.aload_n 0, 1) := by decide +kernel
theorem d_MC_changesDecisions_39 : decode b_MC_changesDecisions 39 = .ok (.getfield 10, 3) := by decide +kernel
theorem d_MC_changesDecisions_42 : decode b_MC_changesDecisions 42 = .ok (.iload_n 3, 1) := by decide +kernel
theorem d_MC_changesDecisions_43 : decode b_MC_changesDecisions 43 = .ok (.invokevirtual 174, 3) := by decide +kernel
theorem d_MC_changesDecisions_46 : decode b_MC_changesDecisions 46 = .ok (.ifCond .eq 24, 3) := by decide +kernel
theorem d_MC_changesDecisions_49 : decode b_MC_changesDecisions 49 = .ok (.aload_n 0, 1) := by decide +kernel
theorem d_MC_changesDecisions_50 : decode b_MC_changesDecisions 50 = .ok (.getfield 32, 3) := by decide +kernel
theorem d_MC_changesDecisions_53 : decode b_MC_changesDecisions 53 = .ok (.iload_n 3, 1) := by decide +kernel
theorem d_MC_changesDecisions_54 : decode b_MC_changesDecisions 54 = .ok (.invokevirtual 183, 3) := by decide +kernel
theorem d_MC_changesDecisions_57 : decode b_MC_changesDecisions 57 = .ok (.aload_n 0, 1) := by decide +kernel
theorem d_MC_changesDecisions_58 : decode b_MC_changesDecisions 58 = .ok (.getfield 28, 3) := by decide +kernel
theorem d_MC_changesDecisions_61 : decode b_MC_changesDecisions 61 = .ok (.iload_n 3, 1) := by decide +kernel
theorem d_MC_changesDecisions_62 : decode b_MC_changesDecisions 62 = .ok (.invokevirtual 183, 3) := by decide +kernel
theorem d_MC_changesDecisions_65 : decode b_MC_changesDecisions 65 = .ok (.if_icmp .eq 5, 3) := by decide +kernel
theorem d_MC_changesDecisions_68 : decode b_MC_changesDecisions 68 = .ok (.iconst 1, 1) := by decide +kernel
theorem d_MC_changesDecisions_69 : decode b_MC_changesDecisions 69 = .ok (.ireturn, 1) := by decide +kernel
theorem d_MC_changesDecisions_70 : decode b_MC_changesDecisions 70 = .ok (.iinc 3 1, 3) := by decide +kernel
theorem d_MC_changesDecisions_73 : decode b_MC_changesDecisions 73 = .ok (.goto (-46), 3) := by decide +kernel
theorem d_MC_changesDecisions_76 : decode b_MC_changesDecisions 76 = .ok (.iconst 0, 1) := by decide +kernel
theorem d_MC_changesDecisions_77 : decode b_MC_changesDecisions 77 = .ok (.ireturn, 1) := by decide +kernel
theorem d_MC_slack_0 : decode b_MC_slack 0 = .ok (.aload_n 0, 1) := by decide +kernel
theorem d_MC_slack_1 : decode b_MC_slack 1 = .ok (.getfield 10, 3) := by decide +kernel
theorem d_MC_slack_4 : decode b_MC_slack 4 = .ok (.iload_n 1, 1) := by decide +kernel
theorem d_MC_slack_5 : decode b_MC_slack 5 = .ok (.iload_n 2, 1) := by decide +kernel
theorem d_MC_slack_6 : decode b_MC_slack 6 = .ok (.iload_n 3, 1) := by decide +kernel
theorem d_MC_slack_7 : decode b_MC_slack 7 = .ok (.invokevirtual 98, 3) := by decide +kernel
theorem d_MC_slack_10 : decode b_MC_slack 10 = .ok (.ifCond .ne 5, 3) := by decide +kernel
theorem d_MC_slack_13 : decode b_MC_slack 13 = .ok (.iconst (-1), 1) := by decide +kernel
theorem d_MC_slack_14 : decode b_MC_slack 14 = .ok (.ireturn, 1) := by decide +kernel
theorem d_MC_slack_15 : decode b_MC_slack 15 = .ok (.iload_n 1, 1) := by decide +kernel
theorem d_MC_slack_16 : decode b_MC_slack 16 = .ok (.iload_n 2, 1) := by decide +kernel
theorem d_MC_slack_17 : decode b_MC_slack 17 = .ok (.iload_n 3, 1) := by decide +kernel
theorem d_MC_slack_18 : decode b_MC_slack 18 = .ok (.invokestatic 111, 3) := by decide +kernel
theorem d_MC_slack_21 : decode b_MC_slack 21 = .ok (.istore 4, 2) := by decide +kernel
theorem d_MC_slack_23 : decode b_MC_slack 23 = .ok (.iconst 0, 1) := by decide +kernel
theorem d_MC_slack_24 : decode b_MC_slack 24 = .ok (.istore 5, 2) := by decide +kernel
theorem d_MC_slack_26 : decode b_MC_slack 26 = .ok (.iload 5, 2) := by decide +kernel
theorem d_MC_slack_28 : decode b_MC_slack 28 = .ok (.bipush 7, 2) := by decide +kernel
theorem d_MC_slack_30 : decode b_MC_slack 30 = .ok (.if_icmp .gt 35, 3) := by decide +kernel
theorem d_MC_slack_33 : decode b_MC_slack 33 = .ok (.aload_n 0, 1) := by decide +kernel
theorem d_MC_slack_34 : decode b_MC_slack 34 = .ok (.iload 4, 2) := by decide +kernel
theorem d_MC_slack_36 : decode b_MC_slack 36 = .ok (.iload 5, 2) := by decide +kernel
theorem d_MC_slack_38 : decode b_MC_slack 38 = .ok (.invokevirtual 301, 3) := by decide +kernel
theorem d_MC_slack_41 : decode b_MC_slack 41 = .ok (.ifCond .eq 18, 3) := by decide +kernel
theorem d_MC_slack_44 : decode b_MC_slack 44 = .ok (.iload 5, 2) := by decide +kernel
theorem d_MC_slack_46 : decode b_MC_slack 46 = .ok (.ifCond .ne 8, 3) := by decide +kernel
theorem d_MC_slack_49 : decode b_MC_slack 49 = .ok (.bipush (-2), 2) := by decide +kernel
theorem d_MC_slack_51 : decode b_MC_slack 51 = .ok (.goto 7, 3) := by decide +kernel
theorem d_MC_slack_54 : decode b_MC_slack 54 = .ok (.iload 5, 2) := by decide +kernel
theorem d_MC_slack_56 : decode b_MC_slack 56 = .ok (.iconst 1, 1) := by decide +kernel
theorem d_MC_slack_57 : decode b_MC_slack 57 = .ok (.isub, 1) := by decide +kernel
theorem d_MC_slack_58 : decode b_MC_slack 58 = .ok (.ireturn, 1) := by decide +kernel
theorem d_MC_slack_59 : decode b_MC_slack 59 = .ok (.iinc 5 1, 3) := by decide +kernel
theorem d_MC_slack_62 : decode b_MC_slack 62 = .ok (.goto (-36), 3) := by decide +kernel
theorem d_MC_slack_65 : decode b_MC_slack 65 = .ok (.bipush 7, 2) := by decide +kernel
theorem d_MC_slack_67 : decode b_MC_slack 67 = .ok (.ireturn, 1) := by decide +kernel
theorem d_MC_isCrucial_0 : decode b_MC_isCrucial 0 = .ok (.aload_n 0, 1) := by decide +kernel
theorem d_MC_isCrucial_1 : decode b_MC_isCrucial 1 = .ok (.getfield 10, 3) := by decide +kernel
theorem d_MC_isCrucial_4 : decode b_MC_isCrucial 4 = .ok (.iload_n 1, 1) := by decide +kernel
theorem d_MC_isCrucial_5 : decode b_MC_isCrucial 5 = .ok (.iload_n 2, 1) := by decide +kernel
theorem d_MC_isCrucial_6 : decode b_MC_isCrucial 6 = .ok (.iload_n 3, 1) := by decide +kernel
theorem d_MC_isCrucial_7 : decode b_MC_isCrucial 7 = .ok (.invokevirtual 98, 3) := by decide +kernel
theorem d_MC_isCrucial_10 : decode b_MC_isCrucial 10 = .ok (.ifCond .ne 5, 3) := by decide +kernel
theorem d_MC_isCrucial_13 : decode b_MC_isCrucial 13 = .ok (.iconst 0, 1) := by decide +kernel
theorem d_MC_isCrucial_14 : decode b_MC_isCrucial 14 = .ok (.ireturn, 1) := by decide +kernel
theorem d_MC_isCrucial_15 : decode b_MC_isCrucial 15 = .ok (.iload_n 1, 1) := by decide +kernel
theorem d_MC_isCrucial_16 : decode b_MC_isCrucial 16 = .ok (.iload_n 2, 1) := by decide +kernel
theorem d_MC_isCrucial_17 : decode b_MC_isCrucial 17 = .ok (.iload_n 3, 1) := by decide +kernel
theorem d_MC_isCrucial_18 : decode b_MC_isCrucial 18 = .ok (.invokestatic 111, 3) := by decide +kernel
theorem d_MC_isCrucial_21 : decode b_MC_isCrucial 21 = .ok (.istore 4, 2) := by decide +kernel
theorem d_MC_isCrucial_23 : decode b_MC_isCrucial 23 = .ok (.aload_n 0, 1) := by decide +kernel
theorem d_MC_isCrucial_24 : decode b_MC_isCrucial 24 = .ok (.getfield 10, 3) := by decide +kernel
theorem d_MC_isCrucial_27 : decode b_MC_isCrucial 27 = .ok (.iload 4, 2) := by decide +kernel
theorem d_MC_isCrucial_29 : decode b_MC_isCrucial 29 = .ok (.invokevirtual 128, 3) := by decide +kernel
theorem d_MC_isCrucial_32 : decode b_MC_isCrucial 32 = .ok (.ifCond .ne 30, 3) := by decide +kernel
theorem d_MC_isCrucial_35 : decode b_MC_isCrucial 35 = .ok (.aload_n 0, 1) := by decide +kernel
theorem d_MC_isCrucial_36 : decode b_MC_isCrucial 36 = .ok (.getfield 28, 3) := by decide +kernel
theorem d_MC_isCrucial_39 : decode b_MC_isCrucial 39 = .ok (.iload 4, 2) := by decide +kernel
theorem d_MC_isCrucial_41 : decode b_MC_isCrucial 41 = .ok (.invokevirtual 307, 3) := by decide +kernel
theorem d_MC_isCrucial_44 : decode b_MC_isCrucial 44 = .ok (.ifCond .eq 18, 3) := by decide +kernel
theorem d_MC_isCrucial_47 : decode b_MC_isCrucial 47 = .ok (.aload_n 0, 1) := by decide +kernel
theorem d_MC_isCrucial_48 : decode b_MC_isCrucial 48 = .ok (.iload 4, 2) := by decide +kernel
theorem d_MC_isCrucial_50 : decode b_MC_isCrucial 50 = .ok (.bipush 99, 2) := by decide +kernel
theorem d_MC_isCrucial_52 : decode b_MC_isCrucial 52 = .ok (.invokevirtual 301, 3) := by decide +kernel
theorem d_MC_isCrucial_55 : decode b_MC_isCrucial 55 = .ok (.ifCond .eq 7, 3) := by decide +kernel
theorem d_MC_isCrucial_58 : decode b_MC_isCrucial 58 = .ok (.iconst 1, 1) := by decide +kernel
theorem d_MC_isCrucial_59 : decode b_MC_isCrucial 59 = .ok (.goto 4, 3) := by decide +kernel
theorem d_MC_isCrucial_62 : decode b_MC_isCrucial 62 = .ok (.iconst 0, 1) := by decide +kernel
theorem d_MC_isCrucial_63 : decode b_MC_isCrucial 63 = .ok (.ireturn, 1) := by decide +kernel
theorem d_MC_crucial_0 : decode b_MC_crucial 0 = .ok (.aload_n 0, 1) := by decide +kernel
theorem d_MC_crucial_1 : decode b_MC_crucial 1 = .ok (.getfield 10, 3) := by decide +kernel
theorem d_MC_crucial_4 : decode b_MC_crucial 4 = .ok (.getfield 71, 3) := by decide +kernel
theorem d_MC_crucial_7 : decode b_MC_crucial 7 = .ok (.ifCond .eq 26, 3) := by decide +kernel
theorem d_MC_crucial_10 : decode b_MC_crucial 10 = .ok (.iload_n 1, 1) := by decide +kernel
theorem d_MC_crucial_11 : decode b_MC_crucial 11 = .ok (.iconst 1, 1) := by decide +kernel
theorem d_MC_crucial_12 : decode b_MC_crucial 12 = .ok (.if_icmp .lt 21, 3) := by decide +kernel
theorem d_MC_crucial_15 : decode b_MC_crucial 15 = .ok (.iload_n 1, 1) := by decide +kernel
theorem d_MC_crucial_16 : decode b_MC_crucial 16 = .ok (.aload_n 0, 1) := by decide +kernel
theorem d_MC_crucial_17 : decode b_MC_crucial 17 = .ok (.getfield 10, 3) := by decide +kernel
theorem d_MC_crucial_20 : decode b_MC_crucial 20 = .ok (.getfield 78, 3) := by decide +kernel
theorem d_MC_crucial_23 : decode b_MC_crucial 23 = .ok (.iconst 2, 1) := by decide +kernel
theorem d_MC_crucial_24 : decode b_MC_crucial 24 = .ok (.iaload, 1) := by decide +kernel
theorem d_MC_crucial_25 : decode b_MC_crucial 25 = .ok (.if_icmp .gt 8, 3) := by decide +kernel
theorem d_MC_crucial_28 : decode b_MC_crucial 28 = .ok (.iload_n 2, 1) := by decide +kernel
theorem d_MC_crucial_29 : decode b_MC_crucial 29 = .ok (.iconst (-1), 1) := by decide +kernel
theorem d_MC_crucial_30 : decode b_MC_crucial 30 = .ok (.if_icmp .ge 5, 3) := by decide +kernel
theorem d_MC_crucial_33 : decode b_MC_crucial 33 = .ok (.iconst (-1), 1) := by decide +kernel
theorem d_MC_crucial_34 : decode b_MC_crucial 34 = .ok (.ireturn, 1) := by decide +kernel
theorem d_MC_crucial_35 : decode b_MC_crucial 35 = .ok (.iconst 0, 1) := by decide +kernel
theorem d_MC_crucial_36 : decode b_MC_crucial 36 = .ok (.istore_n 3, 1) := by decide +kernel
theorem d_MC_crucial_37 : decode b_MC_crucial 37 = .ok (.iconst 0, 1) := by decide +kernel
theorem d_MC_crucial_38 : decode b_MC_crucial 38 = .ok (.istore 4, 2) := by decide +kernel
theorem d_MC_crucial_40 : decode b_MC_crucial 40 = .ok (.iload 4, 2) := by decide +kernel
theorem d_MC_crucial_42 : decode b_MC_crucial 42 = .ok (.bipush 64, 2) := by decide +kernel
theorem d_MC_crucial_44 : decode b_MC_crucial 44 = .ok (.if_icmp .ge 38, 3) := by decide +kernel
theorem d_MC_crucial_47 : decode b_MC_crucial 47 = .ok (.aload_n 0, 1) := by decide +kernel
theorem d_MC_crucial_48 : decode b_MC_crucial 48 = .ok (.iload_n 1, 1) := by decide +kernel
theorem d_MC_crucial_49 : decode b_MC_crucial 49 = .ok (.iload 4, 2) := by decide +kernel
theorem d_MC_crucial_51 : decode b_MC_crucial 51 = .ok (.bipush 8, 2) := by decide +kernel
theorem d_MC_crucial_53 : decode b_MC_crucial 53 = .ok (.idiv, 1) := by decide +kernel
theorem d_MC_crucial_54 : decode b_MC_crucial 54 = .ok (.iload 4, 2) := by decide +kernel
theorem d_MC_crucial_56 : decode b_MC_crucial 56 = .ok (.bipush 8, 2) := by decide +kernel
theorem d_MC_crucial_58 : decode b_MC_crucial 58 = .ok (.irem, 1) := by decide +kernel
theorem d_MC_crucial_59 : decode b_MC_crucial 59 = .ok (.invokevirtual 304, 3) := by decide +kernel
theorem d_MC_crucial_62 : decode b_MC_crucial 62 = .ok (.ifCond .eq 14, 3) := by decide +kernel
theorem d_MC_crucial_65 : decode b_MC_crucial 65 = .ok (.iload_n 3, 1) := by decide +kernel
theorem d_MC_crucial_66 : decode b_MC_crucial 66 = .ok (.iload_n 2, 1) := by decide +kernel
theorem d_MC_crucial_67 : decode b_MC_crucial 67 = .ok (.if_icmp .ne 6, 3) := by decide +kernel
theorem d_MC_crucial_70 : decode b_MC_crucial 70 = .ok (.iload 4, 2) := by decide +kernel
theorem d_MC_crucial_72 : decode b_MC_crucial 72 = .ok (.ireturn, 1) := by decide +kernel
theorem d_MC_crucial_73 : decode b_MC_crucial 73 = .ok (.iinc 3 1, 3) := by decide +kernel
theorem d_MC_crucial_76 : decode b_MC_crucial 76 = .ok (.iinc 4 1, 3) := by decide +kernel
theorem d_MC_crucial_79 : decode b_MC_crucial 79 = .ok (.goto (-39), 3) := by decide +kernel
theorem d_MC_crucial_82 : decode b_MC_crucial 82 = .ok (.iload_n 2, 1) := by decide +kernel
theorem d_MC_crucial_83 : decode b_MC_crucial 83 = .ok (.iconst (-1), 1) := by decide +kernel
theorem d_MC_crucial_84 : decode b_MC_crucial 84 = .ok (.if_icmp .ne 7, 3) := by decide +kernel
theorem d_MC_crucial_87 : decode b_MC_crucial 87 = .ok (.iload_n 3, 1) := by decide +kernel
theorem d_MC_crucial_88 : decode b_MC_crucial 88 = .ok (.goto 5, 3) := by decide +kernel
theorem d_MC_crucial_91 : decode b_MC_crucial 91 = .ok (.bipush (-2), 2) := by decide +kernel
theorem d_MC_crucial_93 : decode b_MC_crucial 93 = .ok (.ireturn, 1) := by decide +kernel
theorem d_MC_least_0 : decode b_MC_least 0 = .ok (.aload_n 0, 1) := by decide +kernel
theorem d_MC_least_1 : decode b_MC_least 1 = .ok (.getfield 10, 3) := by decide +kernel
theorem d_MC_least_4 : decode b_MC_least 4 = .ok (.getfield 71, 3) := by decide +kernel
theorem d_MC_least_7 : decode b_MC_least 7 = .ok (.ifCond .ne 5, 3) := by decide +kernel
theorem d_MC_least_10 : decode b_MC_least 10 = .ok (.iconst (-1), 1) := by decide +kernel
theorem d_MC_least_11 : decode b_MC_least 11 = .ok (.ireturn, 1) := by decide +kernel
theorem d_MC_least_12 : decode b_MC_least 12 = .ok (.aload_n 0, 1) := by decide +kernel
theorem d_MC_least_13 : decode b_MC_least 13 = .ok (.getfield 10, 3) := by decide +kernel
theorem d_MC_least_16 : decode b_MC_least 16 = .ok (.invokevirtual 273, 3) := by decide +kernel
theorem d_MC_least_19 : decode b_MC_least 19 = .ok (.istore_n 1, 1) := by decide +kernel
theorem d_MC_least_20 : decode b_MC_least 20 = .ok (.bipush 8, 2) := by decide +kernel
theorem d_MC_least_22 : decode b_MC_least 22 = .ok (.istore_n 2, 1) := by decide +kernel
theorem d_MC_least_23 : decode b_MC_least 23 = .ok (.iload_n 2, 1) := by decide +kernel
theorem d_MC_least_24 : decode b_MC_least 24 = .ok (.iconst 1, 1) := by decide +kernel
theorem d_MC_least_25 : decode b_MC_least 25 = .ok (.if_icmp .lt 58, 3) := by decide +kernel
theorem d_MC_least_28 : decode b_MC_least 28 = .ok (.aload_n 0, 1) := by decide +kernel
theorem d_MC_least_29 : decode b_MC_least 29 = .ok (.getfield 32, 3) := by decide +kernel
theorem d_MC_least_32 : decode b_MC_least 32 = .ok (.iconst 0, 1) := by decide +kernel
theorem d_MC_least_33 : decode b_MC_least 33 = .ok (.invokevirtual 293, 3) := by decide +kernel
theorem d_MC_least_36 : decode b_MC_least 36 = .ok (.aload_n 0, 1) := by decide +kernel
theorem d_MC_least_37 : decode b_MC_least 37 = .ok (.getfield 32, 3) := by decide +kernel
theorem d_MC_least_40 : decode b_MC_least 40 = .ok (.iload_n 2, 1) := by decide +kernel
theorem d_MC_least_41 : decode b_MC_least 41 = .ok (.putfield 313, 3) := by decide +kernel
theorem d_MC_least_44 : decode b_MC_least 44 = .ok (.aload_n 0, 1) := by decide +kernel
theorem d_MC_least_45 : decode b_MC_least 45 = .ok (.getfield 32, 3) := by decide +kernel
theorem d_MC_least_48 : decode b_MC_least 48 = .ok (.invokevirtual 299, 3) := by decide +kernel
theorem d_MC_least_51 : decode b_MC_least 51 = .ok (.aload_n 0, 1) := by decide +kernel
theorem d_MC_least_52 : decode b_MC_least 52 = .ok (.getfield 32, 3) := by decide +kernel
theorem d_MC_least_55 : decode b_MC_least 55 = .ok (.iload_n 1, 1) := by decide +kernel
theorem d_MC_least_56 : decode b_MC_least 56 = .ok (.invokevirtual 276, 3) := by decide +kernel
theorem d_MC_least_59 : decode b_MC_least 59 = .ok (.ifCond .ne 18, 3) := by decide +kernel
theorem d_MC_least_62 : decode b_MC_least 62 = .ok (.iload_n 2, 1) := by decide +kernel
theorem d_MC_least_63 : decode b_MC_least 63 = .ok (.bipush 8, 2) := by decide +kernel
theorem d_MC_least_65 : decode b_MC_least 65 = .ok (.if_icmp .ne 8, 3) := by decide +kernel
theorem d_MC_least_68 : decode b_MC_least 68 = .ok (.bipush (-2), 2) := by decide +kernel
theorem d_MC_least_70 : decode b_MC_least 70 = .ok (.goto 6, 3) := by decide +kernel
theorem d_MC_least_73 : decode b_MC_least 73 = .ok (.iload_n 2, 1) := by decide +kernel
theorem d_MC_least_74 : decode b_MC_least 74 = .ok (.iconst 1, 1) := by decide +kernel
theorem d_MC_least_75 : decode b_MC_least 75 = .ok (.iadd, 1) := by decide +kernel
theorem d_MC_least_76 : decode b_MC_least 76 = .ok (.ireturn, 1) := by decide +kernel
theorem d_MC_least_77 : decode b_MC_least 77 = .ok (.iinc 2 (-1), 3) := by decide +kernel
theorem d_MC_least_80 : decode b_MC_least 80 = .ok (.goto (-57), 3) := by decide +kernel
theorem d_MC_least_83 : decode b_MC_least 83 = .ok (.iconst 1, 1) := by decide +kernel
theorem d_MC_least_84 : decode b_MC_least 84 = .ok (.ireturn, 1) := by decide +kernel
theorem d_MC_healsWithout_0 : decode b_MC_healsWithout 0 = .ok (.aload_n 0, 1) := by decide +kernel
theorem d_MC_healsWithout_1 : decode b_MC_healsWithout 1 = .ok (.getfield 32, 3) := by decide +kernel
theorem d_MC_healsWithout_4 : decode b_MC_healsWithout 4 = .ok (.iload_n 1, 1) := by decide +kernel
theorem d_MC_healsWithout_5 : decode b_MC_healsWithout 5 = .ok (.invokevirtual 293, 3) := by decide +kernel
theorem d_MC_healsWithout_8 : decode b_MC_healsWithout 8 = .ok (.aload_n 0, 1) := by decide +kernel
theorem d_MC_healsWithout_9 : decode b_MC_healsWithout 9 = .ok (.getfield 32, 3) := by decide +kernel
theorem d_MC_healsWithout_12 : decode b_MC_healsWithout 12 = .ok (.invokevirtual 299, 3) := by decide +kernel
theorem d_MC_healsWithout_15 : decode b_MC_healsWithout 15 = .ok (.aload_n 0, 1) := by decide +kernel
theorem d_MC_healsWithout_16 : decode b_MC_healsWithout 16 = .ok (.getfield 32, 3) := by decide +kernel
theorem d_MC_healsWithout_19 : decode b_MC_healsWithout 19 = .ok (.aload_n 0, 1) := by decide +kernel
theorem d_MC_healsWithout_20 : decode b_MC_healsWithout 20 = .ok (.getfield 10, 3) := by decide +kernel
theorem d_MC_healsWithout_23 : decode b_MC_healsWithout 23 = .ok (.invokevirtual 151, 3) := by decide +kernel
theorem d_MC_healsWithout_26 : decode b_MC_healsWithout 26 = .ok (.invokevirtual 276, 3) := by decide +kernel
theorem d_MC_healsWithout_29 : decode b_MC_healsWithout 29 = .ok (.ireturn, 1) := by decide +kernel
theorem d_MC_heal_0 : decode b_MC_heal 0 = .ok (.aload_n 0, 1) := by decide +kernel
theorem d_MC_heal_1 : decode b_MC_heal 1 = .ok (.getfield 10, 3) := by decide +kernel
theorem d_MC_heal_4 : decode b_MC_heal 4 = .ok (.getfield 71, 3) := by decide +kernel
theorem d_MC_heal_7 : decode b_MC_heal 7 = .ok (.ifCond .ne 5, 3) := by decide +kernel
theorem d_MC_heal_10 : decode b_MC_heal 10 = .ok (.iconst (-1), 1) := by decide +kernel
theorem d_MC_heal_11 : decode b_MC_heal 11 = .ok (.ireturn, 1) := by decide +kernel
theorem d_MC_heal_12 : decode b_MC_heal 12 = .ok (.iconst 1, 1) := by decide +kernel
theorem d_MC_heal_13 : decode b_MC_heal 13 = .ok (.aload_n 0, 1) := by decide +kernel
theorem d_MC_heal_14 : decode b_MC_heal 14 = .ok (.getfield 10, 3) := by decide +kernel
theorem d_MC_heal_17 : decode b_MC_heal 17 = .ok (.getfield 131, 3) := by decide +kernel
theorem d_MC_heal_20 : decode b_MC_heal 20 = .ok (.aload_n 0, 1) := by decide +kernel
theorem d_MC_heal_21 : decode b_MC_heal 21 = .ok (.getfield 10, 3) := by decide +kernel
theorem d_MC_heal_24 : decode b_MC_heal 24 = .ok (.getfield 140, 3) := by decide +kernel
theorem d_MC_heal_27 : decode b_MC_heal 27 = .ok (.iadd, 1) := by decide +kernel
theorem d_MC_heal_28 : decode b_MC_heal 28 = .ok (.bipush 6, 2) := by decide +kernel
theorem d_MC_heal_30 : decode b_MC_heal 30 = .ok (.invokestatic 285, 3) := by decide +kernel
theorem d_MC_heal_33 : decode b_MC_heal 33 = .ok (.ishl, 1) := by decide +kernel
theorem d_MC_heal_34 : decode b_MC_heal 34 = .ok (.iconst 1, 1) := by decide +kernel
theorem d_MC_heal_35 : decode b_MC_heal 35 = .ok (.isub, 1) := by decide +kernel
theorem d_MC_heal_36 : decode b_MC_heal 36 = .ok (.istore_n 1, 1) := by decide +kernel
theorem d_MC_heal_37 : decode b_MC_heal 37 = .ok (.iconst 0, 1) := by decide +kernel
theorem d_MC_heal_38 : decode b_MC_heal 38 = .ok (.istore_n 2, 1) := by decide +kernel
theorem d_MC_heal_39 : decode b_MC_heal 39 = .ok (.iload_n 2, 1) := by decide +kernel
theorem d_MC_heal_40 : decode b_MC_heal 40 = .ok (.bipush 6, 2) := by decide +kernel
theorem d_MC_heal_42 : decode b_MC_heal 42 = .ok (.if_icmp .gt 40, 3) := by decide +kernel
theorem d_MC_heal_45 : decode b_MC_heal 45 = .ok (.iconst 0, 1) := by decide +kernel
theorem d_MC_heal_46 : decode b_MC_heal 46 = .ok (.istore_n 3, 1) := by decide +kernel
theorem d_MC_heal_47 : decode b_MC_heal 47 = .ok (.iload_n 3, 1) := by decide +kernel
theorem d_MC_heal_48 : decode b_MC_heal 48 = .ok (.iload_n 1, 1) := by decide +kernel
theorem d_MC_heal_49 : decode b_MC_heal 49 = .ok (.if_icmp .gt 27, 3) := by decide +kernel
theorem d_MC_heal_52 : decode b_MC_heal 52 = .ok (.iload_n 3, 1) := by decide +kernel
theorem d_MC_heal_53 : decode b_MC_heal 53 = .ok (.invokestatic 146, 3) := by decide +kernel
theorem d_MC_heal_56 : decode b_MC_heal 56 = .ok (.iload_n 2, 1) := by decide +kernel
theorem d_MC_heal_57 : decode b_MC_heal 57 = .ok (.if_icmp .ne 13, 3) := by decide +kernel
theorem d_MC_heal_60 : decode b_MC_heal 60 = .ok (.aload_n 0, 1) := by decide +kernel
theorem d_MC_heal_61 : decode b_MC_heal 61 = .ok (.iload_n 3, 1) := by decide +kernel
theorem d_MC_heal_62 : decode b_MC_heal 62 = .ok (.invokevirtual 316, 3) := by decide +kernel
theorem d_MC_heal_65 : decode b_MC_heal 65 = .ok (.ifCond .eq 5, 3) := by decide +kernel
theorem d_MC_heal_68 : decode b_MC_heal 68 = .ok (.iload_n 3, 1) := by decide +kernel
theorem d_MC_heal_69 : decode b_MC_heal 69 = .ok (.ireturn, 1) := by decide +kernel
theorem d_MC_heal_70 : decode b_MC_heal 70 = .ok (.iinc 3 1, 3) := by decide +kernel
theorem d_MC_heal_73 : decode b_MC_heal 73 = .ok (.goto (-26), 3) := by decide +kernel
theorem d_MC_heal_76 : decode b_MC_heal 76 = .ok (.iinc 2 1, 3) := by decide +kernel
theorem d_MC_heal_79 : decode b_MC_heal 79 = .ok (.goto (-40), 3) := by decide +kernel
theorem d_MC_heal_82 : decode b_MC_heal 82 = .ok (.bipush (-2), 2) := by decide +kernel
theorem d_MC_heal_84 : decode b_MC_heal 84 = .ok (.ireturn, 1) := by decide +kernel
theorem d_MC_count_0 : decode b_MC_count 0 = .ok (.iload_n 1, 1) := by decide +kernel
theorem d_MC_count_1 : decode b_MC_count 1 = .ok (.iconst 1, 1) := by decide +kernel
theorem d_MC_count_2 : decode b_MC_count 2 = .ok (.if_icmp .lt 20, 3) := by decide +kernel
theorem d_MC_count_5 : decode b_MC_count 5 = .ok (.iload_n 1, 1) := by decide +kernel
theorem d_MC_count_6 : decode b_MC_count 6 = .ok (.iconst 5, 1) := by decide +kernel
theorem d_MC_count_7 : decode b_MC_count 7 = .ok (.if_icmp .gt 15, 3) := by decide +kernel
theorem d_MC_count_10 : decode b_MC_count 10 = .ok (.aload_n 0, 1) := by decide +kernel
theorem d_MC_count_11 : decode b_MC_count 11 = .ok (.getfield 10, 3) := by decide +kernel
theorem d_MC_count_14 : decode b_MC_count 14 = .ok (.getfield 78, 3) := by decide +kernel
theorem d_MC_count_17 : decode b_MC_count 17 = .ok (.iload_n 1, 1) := by decide +kernel
theorem d_MC_count_18 : decode b_MC_count 18 = .ok (.iconst 1, 1) := by decide +kernel
theorem d_MC_count_19 : decode b_MC_count 19 = .ok (.isub, 1) := by decide +kernel
theorem d_MC_count_20 : decode b_MC_count 20 = .ok (.iaload, 1) := by decide +kernel
theorem d_MC_count_21 : decode b_MC_count 21 = .ok (.ireturn, 1) := by decide +kernel
theorem d_MC_count_22 : decode b_MC_count 22 = .ok (.iload_n 1, 1) := by decide +kernel
theorem d_MC_count_23 : decode b_MC_count 23 = .ok (.tableswitch 135 0 13 #[69, 135, 135, 135, 135, 135, 77, 85, 93, 101, 109, 114, 122, 127], 69) := by decide +kernel
theorem d_MC_count_92 : decode b_MC_count 92 = .ok (.aload_n 0, 1) := by decide +kernel
theorem d_MC_count_93 : decode b_MC_count 93 = .ok (.getfield 10, 3) := by decide +kernel
theorem d_MC_count_96 : decode b_MC_count 96 = .ok (.getfield 71, 3) := by decide +kernel
theorem d_MC_count_99 : decode b_MC_count 99 = .ok (.ireturn, 1) := by decide +kernel
theorem d_MC_count_100 : decode b_MC_count 100 = .ok (.aload_n 0, 1) := by decide +kernel
theorem d_MC_count_101 : decode b_MC_count 101 = .ok (.getfield 10, 3) := by decide +kernel
theorem d_MC_count_104 : decode b_MC_count 104 = .ok (.getfield 89, 3) := by decide +kernel
theorem d_MC_count_107 : decode b_MC_count 107 = .ok (.ireturn, 1) := by decide +kernel
theorem d_MC_count_108 : decode b_MC_count 108 = .ok (.aload_n 0, 1) := by decide +kernel
theorem d_MC_count_109 : decode b_MC_count 109 = .ok (.getfield 10, 3) := by decide +kernel
theorem d_MC_count_112 : decode b_MC_count 112 = .ok (.getfield 108, 3) := by decide +kernel
theorem d_MC_count_115 : decode b_MC_count 115 = .ok (.ireturn, 1) := by decide +kernel
theorem d_MC_count_116 : decode b_MC_count 116 = .ok (.aload_n 0, 1) := by decide +kernel
theorem d_MC_count_117 : decode b_MC_count 117 = .ok (.getfield 10, 3) := by decide +kernel
theorem d_MC_count_120 : decode b_MC_count 120 = .ok (.getfield 131, 3) := by decide +kernel
theorem d_MC_count_123 : decode b_MC_count 123 = .ok (.ireturn, 1) := by decide +kernel
theorem d_MC_count_124 : decode b_MC_count 124 = .ok (.aload_n 0, 1) := by decide +kernel
theorem d_MC_count_125 : decode b_MC_count 125 = .ok (.getfield 10, 3) := by decide +kernel
theorem d_MC_count_128 : decode b_MC_count 128 = .ok (.getfield 140, 3) := by decide +kernel
theorem d_MC_count_131 : decode b_MC_count 131 = .ok (.ireturn, 1) := by decide +kernel
theorem d_MC_count_132 : decode b_MC_count 132 = .ok (.aload_n 0, 1) := by decide +kernel
theorem d_MC_count_133 : decode b_MC_count 133 = .ok (.getfield 42, 3) := by decide +kernel
theorem d_MC_count_136 : decode b_MC_count 136 = .ok (.ireturn, 1) := by decide +kernel
theorem d_MC_count_137 : decode b_MC_count 137 = .ok (.aload_n 0, 1) := by decide +kernel
theorem d_MC_count_138 : decode b_MC_count 138 = .ok (.getfield 19, 3) := by decide +kernel
theorem d_MC_count_141 : decode b_MC_count 141 = .ok (.getfield 52, 3) := by decide +kernel
theorem d_MC_count_144 : decode b_MC_count 144 = .ok (.ireturn, 1) := by decide +kernel
theorem d_MC_count_145 : decode b_MC_count 145 = .ok (.aload_n 0, 1) := by decide +kernel
theorem d_MC_count_146 : decode b_MC_count 146 = .ok (.getfield 46, 3) := by decide +kernel
theorem d_MC_count_149 : decode b_MC_count 149 = .ok (.ireturn, 1) := by decide +kernel
theorem d_MC_count_150 : decode b_MC_count 150 = .ok (.aload_n 0, 1) := by decide +kernel
theorem d_MC_count_151 : decode b_MC_count 151 = .ok (.getfield 28, 3) := by decide +kernel
theorem d_MC_count_154 : decode b_MC_count 154 = .ok (.invokevirtual 319, 3) := by decide +kernel
theorem d_MC_count_157 : decode b_MC_count 157 = .ok (.ireturn, 1) := by decide +kernel
theorem d_MC_count_158 : decode b_MC_count 158 = .ok (.iconst (-1), 1) := by decide +kernel
theorem d_MC_count_159 : decode b_MC_count 159 = .ok (.ireturn, 1) := by decide +kernel
theorem d_MC_planned_0 : decode b_MC_planned 0 = .ok (.iload_n 1, 1) := by decide +kernel
theorem d_MC_planned_1 : decode b_MC_planned 1 = .ok (.ifCond .lt 14, 3) := by decide +kernel
theorem d_MC_planned_4 : decode b_MC_planned 4 = .ok (.iload_n 1, 1) := by decide +kernel
theorem d_MC_planned_5 : decode b_MC_planned 5 = .ok (.aload_n 0, 1) := by decide +kernel
theorem d_MC_planned_6 : decode b_MC_planned 6 = .ok (.getfield 10, 3) := by decide +kernel
theorem d_MC_planned_9 : decode b_MC_planned 9 = .ok (.getfield 108, 3) := by decide +kernel
theorem d_MC_planned_12 : decode b_MC_planned 12 = .ok (.if_icmp .lt 5, 3) := by decide +kernel
theorem d_MC_planned_15 : decode b_MC_planned 15 = .ok (.iconst (-1), 1) := by decide +kernel
theorem d_MC_planned_16 : decode b_MC_planned 16 = .ok (.ireturn, 1) := by decide +kernel
theorem d_MC_planned_17 : decode b_MC_planned 17 = .ok (.iload_n 2, 1) := by decide +kernel
theorem d_MC_planned_18 : decode b_MC_planned 18 = .ok (.tableswitch 96 0 4 #[34, 47, 60, 73, 83], 34) := by decide +kernel
theorem d_MC_planned_52 : decode b_MC_planned 52 = .ok (.aload_n 0, 1) := by decide +kernel
theorem d_MC_planned_53 : decode b_MC_planned 53 = .ok (.getfield 10, 3) := by decide +kernel
theorem d_MC_planned_56 : decode b_MC_planned 56 = .ok (.getfield 322, 3) := by decide +kernel
theorem d_MC_planned_59 : decode b_MC_planned 59 = .ok (.iload_n 1, 1) := by decide +kernel
theorem d_MC_planned_60 : decode b_MC_planned 60 = .ok (.iaload, 1) := by decide +kernel
theorem d_MC_planned_61 : decode b_MC_planned 61 = .ok (.invokestatic 213, 3) := by decide +kernel
theorem d_MC_planned_64 : decode b_MC_planned 64 = .ok (.ireturn, 1) := by decide +kernel
theorem d_MC_planned_65 : decode b_MC_planned 65 = .ok (.aload_n 0, 1) := by decide +kernel
theorem d_MC_planned_66 : decode b_MC_planned 66 = .ok (.getfield 10, 3) := by decide +kernel
theorem d_MC_planned_69 : decode b_MC_planned 69 = .ok (.getfield 322, 3) := by decide +kernel
theorem d_MC_planned_72 : decode b_MC_planned 72 = .ok (.iload_n 1, 1) := by decide +kernel
theorem d_MC_planned_73 : decode b_MC_planned 73 = .ok (.iaload, 1) := by decide +kernel
theorem d_MC_planned_74 : decode b_MC_planned 74 = .ok (.invokestatic 216, 3) := by decide +kernel
theorem d_MC_planned_77 : decode b_MC_planned 77 = .ok (.ireturn, 1) := by decide +kernel
theorem d_MC_planned_78 : decode b_MC_planned 78 = .ok (.aload_n 0, 1) := by decide +kernel
theorem d_MC_planned_79 : decode b_MC_planned 79 = .ok (.getfield 10, 3) := by decide +kernel
theorem d_MC_planned_82 : decode b_MC_planned 82 = .ok (.getfield 322, 3) := by decide +kernel
theorem d_MC_planned_85 : decode b_MC_planned 85 = .ok (.iload_n 1, 1) := by decide +kernel
theorem d_MC_planned_86 : decode b_MC_planned 86 = .ok (.iaload, 1) := by decide +kernel
theorem d_MC_planned_87 : decode b_MC_planned 87 = .ok (.invokestatic 219, 3) := by decide +kernel
theorem d_MC_planned_90 : decode b_MC_planned 90 = .ok (.ireturn, 1) := by decide +kernel
theorem d_MC_planned_91 : decode b_MC_planned 91 = .ok (.aload_n 0, 1) := by decide +kernel
theorem d_MC_planned_92 : decode b_MC_planned 92 = .ok (.getfield 10, 3) := by decide +kernel
theorem d_MC_planned_95 : decode b_MC_planned 95 = .ok (.getfield 325, 3) := by decide +kernel
theorem d_MC_planned_98 : decode b_MC_planned 98 = .ok (.iload_n 1, 1) := by decide +kernel
theorem d_MC_planned_99 : decode b_MC_planned 99 = .ok (.iaload, 1) := by decide +kernel
theorem d_MC_planned_100 : decode b_MC_planned 100 = .ok (.ireturn, 1) := by decide +kernel
theorem d_MC_planned_101 : decode b_MC_planned 101 = .ok (.aload_n 0, 1) := by decide +kernel
theorem d_MC_planned_102 : decode b_MC_planned 102 = .ok (.getfield 10, 3) := by decide +kernel
theorem d_MC_planned_105 : decode b_MC_planned 105 = .ok (.getfield 328, 3) := by decide +kernel
theorem d_MC_planned_108 : decode b_MC_planned 108 = .ok (.iload_n 1, 1) := by decide +kernel
theorem d_MC_planned_109 : decode b_MC_planned 109 = .ok (.iaload, 1) := by decide +kernel
theorem d_MC_planned_110 : decode b_MC_planned 110 = .ok (.invokestatic 331, 3) := by decide +kernel
theorem d_MC_planned_113 : decode b_MC_planned 113 = .ok (.ireturn, 1) := by decide +kernel
theorem d_MC_planned_114 : decode b_MC_planned 114 = .ok (.iconst (-1), 1) := by decide +kernel
theorem d_MC_planned_115 : decode b_MC_planned 115 = .ok (.ireturn, 1) := by decide +kernel
theorem d_MC_fault_0 : decode b_MC_fault 0 = .ok (.iload_n 1, 1) := by decide +kernel
theorem d_MC_fault_1 : decode b_MC_fault 1 = .ok (.iconst 1, 1) := by decide +kernel
theorem d_MC_fault_2 : decode b_MC_fault 2 = .ok (.if_icmp .lt 19, 3) := by decide +kernel
theorem d_MC_fault_5 : decode b_MC_fault 5 = .ok (.iload_n 2, 1) := by decide +kernel
theorem d_MC_fault_6 : decode b_MC_fault 6 = .ok (.ifCond .lt 15, 3) := by decide +kernel
theorem d_MC_fault_9 : decode b_MC_fault 9 = .ok (.iload_n 2, 1) := by decide +kernel
theorem d_MC_fault_10 : decode b_MC_fault 10 = .ok (.aload_n 0, 1) := by decide +kernel
theorem d_MC_fault_11 : decode b_MC_fault 11 = .ok (.getfield 10, 3) := by decide +kernel
theorem d_MC_fault_14 : decode b_MC_fault 14 = .ok (.iload_n 1, 1) := by decide +kernel
theorem d_MC_fault_15 : decode b_MC_fault 15 = .ok (.invokevirtual 121, 3) := by decide +kernel
theorem d_MC_fault_18 : decode b_MC_fault 18 = .ok (.if_icmp .lt 5, 3) := by decide +kernel
theorem d_MC_fault_21 : decode b_MC_fault 21 = .ok (.iconst (-1), 1) := by decide +kernel
theorem d_MC_fault_22 : decode b_MC_fault 22 = .ok (.ireturn, 1) := by decide +kernel
theorem d_MC_fault_23 : decode b_MC_fault 23 = .ok (.iload_n 1, 1) := by decide +kernel
theorem d_MC_fault_24 : decode b_MC_fault 24 = .ok (.iconst 1, 1) := by decide +kernel
theorem d_MC_fault_25 : decode b_MC_fault 25 = .ok (.if_icmp .ne 15, 3) := by decide +kernel
theorem d_MC_fault_28 : decode b_MC_fault 28 = .ok (.aload_n 0, 1) := by decide +kernel
theorem d_MC_fault_29 : decode b_MC_fault 29 = .ok (.getfield 10, 3) := by decide +kernel
theorem d_MC_fault_32 : decode b_MC_fault 32 = .ok (.getfield 334, 3) := by decide +kernel
theorem d_MC_fault_35 : decode b_MC_fault 35 = .ok (.iload_n 2, 1) := by decide +kernel
theorem d_MC_fault_36 : decode b_MC_fault 36 = .ok (.iaload, 1) := by decide +kernel
theorem d_MC_fault_37 : decode b_MC_fault 37 = .ok (.goto 12, 3) := by decide +kernel
theorem d_MC_fault_40 : decode b_MC_fault 40 = .ok (.aload_n 0, 1) := by decide +kernel
theorem d_MC_fault_41 : decode b_MC_fault 41 = .ok (.getfield 10, 3) := by decide +kernel
theorem d_MC_fault_44 : decode b_MC_fault 44 = .ok (.getfield 337, 3) := by decide +kernel
theorem d_MC_fault_47 : decode b_MC_fault 47 = .ok (.iload_n 2, 1) := by decide +kernel
theorem d_MC_fault_48 : decode b_MC_fault 48 = .ok (.iaload, 1) := by decide +kernel
theorem d_MC_fault_49 : decode b_MC_fault 49 = .ok (.istore 4, 2) := by decide +kernel
theorem d_MC_fault_51 : decode b_MC_fault 51 = .ok (.iload_n 3, 1) := by decide +kernel
theorem d_MC_fault_52 : decode b_MC_fault 52 = .ok (.tableswitch 69 0 3 #[32, 38, 44, 50], 32) := by decide +kernel
theorem d_MC_fault_84 : decode b_MC_fault 84 = .ok (.iload 4, 2) := by decide +kernel
theorem d_MC_fault_86 : decode b_MC_fault 86 = .ok (.invokestatic 213, 3) := by decide +kernel
theorem d_MC_fault_89 : decode b_MC_fault 89 = .ok (.ireturn, 1) := by decide +kernel
theorem d_MC_fault_90 : decode b_MC_fault 90 = .ok (.iload 4, 2) := by decide +kernel
theorem d_MC_fault_92 : decode b_MC_fault 92 = .ok (.invokestatic 216, 3) := by decide +kernel
theorem d_MC_fault_95 : decode b_MC_fault 95 = .ok (.ireturn, 1) := by decide +kernel
theorem d_MC_fault_96 : decode b_MC_fault 96 = .ok (.iload 4, 2) := by decide +kernel
theorem d_MC_fault_98 : decode b_MC_fault 98 = .ok (.invokestatic 219, 3) := by decide +kernel
theorem d_MC_fault_101 : decode b_MC_fault 101 = .ok (.ireturn, 1) := by decide +kernel
theorem d_MC_fault_102 : decode b_MC_fault 102 = .ok (.iload_n 1, 1) := by decide +kernel
theorem d_MC_fault_103 : decode b_MC_fault 103 = .ok (.iconst 1, 1) := by decide +kernel
theorem d_MC_fault_104 : decode b_MC_fault 104 = .ok (.if_icmp .ne 7, 3) := by decide +kernel
theorem d_MC_fault_107 : decode b_MC_fault 107 = .ok (.iconst 0, 1) := by decide +kernel
theorem d_MC_fault_108 : decode b_MC_fault 108 = .ok (.goto 12, 3) := by decide +kernel
theorem d_MC_fault_111 : decode b_MC_fault 111 = .ok (.aload_n 0, 1) := by decide +kernel
theorem d_MC_fault_112 : decode b_MC_fault 112 = .ok (.getfield 10, 3) := by decide +kernel
theorem d_MC_fault_115 : decode b_MC_fault 115 = .ok (.getfield 340, 3) := by decide +kernel
theorem d_MC_fault_118 : decode b_MC_fault 118 = .ok (.iload_n 2, 1) := by decide +kernel
theorem d_MC_fault_119 : decode b_MC_fault 119 = .ok (.iaload, 1) := by decide +kernel
theorem d_MC_fault_120 : decode b_MC_fault 120 = .ok (.ireturn, 1) := by decide +kernel
theorem d_MC_fault_121 : decode b_MC_fault 121 = .ok (.iconst (-1), 1) := by decide +kernel
theorem d_MC_fault_122 : decode b_MC_fault 122 = .ok (.ireturn, 1) := by decide +kernel
theorem d_MC_init_0 : decode b_MC_init 0 = .ok (.aload_n 0, 1) := by decide +kernel
theorem d_MC_init_1 : decode b_MC_init 1 = .ok (.invokespecial 1, 3) := by decide +kernel
theorem d_MC_init_4 : decode b_MC_init 4 = .ok (.aload_n 0, 1) := by decide +kernel
theorem d_MC_init_5 : decode b_MC_init 5 = .ok (.new 7, 3) := by decide +kernel
theorem d_MC_init_8 : decode b_MC_init 8 = .ok (.dup, 1) := by decide +kernel
theorem d_MC_init_9 : decode b_MC_init 9 = .ok (.invokespecial 9, 3) := by decide +kernel
theorem d_MC_init_12 : decode b_MC_init 12 = .ok (.putfield 10, 3) := by decide +kernel
theorem d_MC_init_15 : decode b_MC_init 15 = .ok (.aload_n 0, 1) := by decide +kernel
theorem d_MC_init_16 : decode b_MC_init 16 = .ok (.new 16, 3) := by decide +kernel
theorem d_MC_init_19 : decode b_MC_init 19 = .ok (.dup, 1) := by decide +kernel
theorem d_MC_init_20 : decode b_MC_init 20 = .ok (.invokespecial 18, 3) := by decide +kernel
theorem d_MC_init_23 : decode b_MC_init 23 = .ok (.putfield 19, 3) := by decide +kernel
theorem d_MC_init_26 : decode b_MC_init 26 = .ok (.aload_n 0, 1) := by decide +kernel
theorem d_MC_init_27 : decode b_MC_init 27 = .ok (.new 23, 3) := by decide +kernel
theorem d_MC_init_30 : decode b_MC_init 30 = .ok (.dup, 1) := by decide +kernel
theorem d_MC_init_31 : decode b_MC_init 31 = .ok (.aload_n 0, 1) := by decide +kernel
theorem d_MC_init_32 : decode b_MC_init 32 = .ok (.getfield 10, 3) := by decide +kernel
theorem d_MC_init_35 : decode b_MC_init 35 = .ok (.invokespecial 25, 3) := by decide +kernel
theorem d_MC_init_38 : decode b_MC_init 38 = .ok (.putfield 28, 3) := by decide +kernel
theorem d_MC_init_41 : decode b_MC_init 41 = .ok (.aload_n 0, 1) := by decide +kernel
theorem d_MC_init_42 : decode b_MC_init 42 = .ok (.new 23, 3) := by decide +kernel
theorem d_MC_init_45 : decode b_MC_init 45 = .ok (.dup, 1) := by decide +kernel
theorem d_MC_init_46 : decode b_MC_init 46 = .ok (.aload_n 0, 1) := by decide +kernel
theorem d_MC_init_47 : decode b_MC_init 47 = .ok (.getfield 10, 3) := by decide +kernel
theorem d_MC_init_50 : decode b_MC_init 50 = .ok (.invokespecial 25, 3) := by decide +kernel
theorem d_MC_init_53 : decode b_MC_init 53 = .ok (.putfield 32, 3) := by decide +kernel
theorem d_MC_init_56 : decode b_MC_init 56 = .ok (.aload_n 0, 1) := by decide +kernel
theorem d_MC_init_57 : decode b_MC_init 57 = .ok (.bipush 10, 2) := by decide +kernel
theorem d_MC_init_59 : decode b_MC_init 59 = .ok (.anewarray 7, 3) := by decide +kernel
theorem d_MC_init_62 : decode b_MC_init 62 = .ok (.putfield 35, 3) := by decide +kernel
theorem d_MC_init_65 : decode b_MC_init 65 = .ok (.aload_n 0, 1) := by decide +kernel
theorem d_MC_init_66 : decode b_MC_init 66 = .ok (.iconst 2, 1) := by decide +kernel
theorem d_MC_init_67 : decode b_MC_init 67 = .ok (.anewarray 7, 3) := by decide +kernel
theorem d_MC_init_70 : decode b_MC_init 70 = .ok (.putfield 39, 3) := by decide +kernel
theorem d_MC_init_73 : decode b_MC_init 73 = .ok (.aload_n 0, 1) := by decide +kernel
theorem d_MC_init_74 : decode b_MC_init 74 = .ok (.iconst 0, 1) := by decide +kernel
theorem d_MC_init_75 : decode b_MC_init 75 = .ok (.putfield 42, 3) := by decide +kernel
theorem d_MC_init_78 : decode b_MC_init 78 = .ok (.aload_n 0, 1) := by decide +kernel
theorem d_MC_init_79 : decode b_MC_init 79 = .ok (.iconst 0, 1) := by decide +kernel
theorem d_MC_init_80 : decode b_MC_init 80 = .ok (.putfield 46, 3) := by decide +kernel
theorem d_MC_init_83 : decode b_MC_init 83 = .ok (.iconst 0, 1) := by decide +kernel
theorem d_MC_init_84 : decode b_MC_init 84 = .ok (.istore_n 1, 1) := by decide +kernel
theorem d_MC_init_85 : decode b_MC_init 85 = .ok (.iload_n 1, 1) := by decide +kernel
theorem d_MC_init_86 : decode b_MC_init 86 = .ok (.bipush 10, 2) := by decide +kernel
theorem d_MC_init_88 : decode b_MC_init 88 = .ok (.if_icmp .ge 22, 3) := by decide +kernel
theorem d_MC_init_91 : decode b_MC_init 91 = .ok (.aload_n 0, 1) := by decide +kernel
theorem d_MC_init_92 : decode b_MC_init 92 = .ok (.getfield 35, 3) := by decide +kernel
theorem d_MC_init_95 : decode b_MC_init 95 = .ok (.iload_n 1, 1) := by decide +kernel
theorem d_MC_init_96 : decode b_MC_init 96 = .ok (.new 7, 3) := by decide +kernel
theorem d_MC_init_99 : decode b_MC_init 99 = .ok (.dup, 1) := by decide +kernel
theorem d_MC_init_100 : decode b_MC_init 100 = .ok (.invokespecial 9, 3) := by decide +kernel
theorem d_MC_init_103 : decode b_MC_init 103 = .ok (.aastore, 1) := by decide +kernel
theorem d_MC_init_104 : decode b_MC_init 104 = .ok (.iinc 1 1, 3) := by decide +kernel
theorem d_MC_init_107 : decode b_MC_init 107 = .ok (.goto (-22), 3) := by decide +kernel
theorem d_MC_init_110 : decode b_MC_init 110 = .ok (.iconst 0, 1) := by decide +kernel
theorem d_MC_init_111 : decode b_MC_init 111 = .ok (.istore_n 1, 1) := by decide +kernel
theorem d_MC_init_112 : decode b_MC_init 112 = .ok (.iload_n 1, 1) := by decide +kernel
theorem d_MC_init_113 : decode b_MC_init 113 = .ok (.iconst 2, 1) := by decide +kernel
theorem d_MC_init_114 : decode b_MC_init 114 = .ok (.if_icmp .ge 22, 3) := by decide +kernel
theorem d_MC_init_117 : decode b_MC_init 117 = .ok (.aload_n 0, 1) := by decide +kernel
theorem d_MC_init_118 : decode b_MC_init 118 = .ok (.getfield 39, 3) := by decide +kernel
theorem d_MC_init_121 : decode b_MC_init 121 = .ok (.iload_n 1, 1) := by decide +kernel
theorem d_MC_init_122 : decode b_MC_init 122 = .ok (.new 7, 3) := by decide +kernel
theorem d_MC_init_125 : decode b_MC_init 125 = .ok (.dup, 1) := by decide +kernel
theorem d_MC_init_126 : decode b_MC_init 126 = .ok (.invokespecial 9, 3) := by decide +kernel
theorem d_MC_init_129 : decode b_MC_init 129 = .ok (.aastore, 1) := by decide +kernel
theorem d_MC_init_130 : decode b_MC_init 130 = .ok (.iinc 1 1, 3) := by decide +kernel
theorem d_MC_init_133 : decode b_MC_init 133 = .ok (.goto (-21), 3) := by decide +kernel
theorem d_MC_init_136 : decode b_MC_init 136 = .ok (.aload_n 0, 1) := by decide +kernel
theorem d_MC_init_137 : decode b_MC_init 137 = .ok (.invokevirtual 49, 3) := by decide +kernel
theorem d_MC_init_140 : decode b_MC_init 140 = .ok (.return_, 1) := by decide +kernel
