/-! the instructions, one by one -/
theorem d_Play_clear_0 : decode b_Play_clear 0 = .ok (.aload_n 0, 1) := by decide +kernel
theorem d_Play_clear_1 : decode b_Play_clear 1 = .ok (.iconst 0, 1) := by decide +kernel
theorem d_Play_clear_2 : decode b_Play_clear 2 = .ok (.putfield 36, 3) := by decide +kernel
theorem d_Play_clear_5 : decode b_Play_clear 5 = .ok (.aload_n 0, 1) := by decide +kernel
theorem d_Play_clear_6 : decode b_Play_clear 6 = .ok (.iconst 0, 1) := by decide +kernel
theorem d_Play_clear_7 : decode b_Play_clear 7 = .ok (.putfield 40, 3) := by decide +kernel
theorem d_Play_clear_10 : decode b_Play_clear 10 = .ok (.aload_n 0, 1) := by decide +kernel
theorem d_Play_clear_11 : decode b_Play_clear 11 = .ok (.iconst 0, 1) := by decide +kernel
theorem d_Play_clear_12 : decode b_Play_clear 12 = .ok (.putfield 43, 3) := by decide +kernel
theorem d_Play_clear_15 : decode b_Play_clear 15 = .ok (.aload_n 0, 1) := by decide +kernel
theorem d_Play_clear_16 : decode b_Play_clear 16 = .ok (.iconst 0, 1) := by decide +kernel
theorem d_Play_clear_17 : decode b_Play_clear 17 = .ok (.putfield 46, 3) := by decide +kernel
theorem d_Play_clear_20 : decode b_Play_clear 20 = .ok (.aload_n 0, 1) := by decide +kernel
theorem d_Play_clear_21 : decode b_Play_clear 21 = .ok (.iconst 0, 1) := by decide +kernel
theorem d_Play_clear_22 : decode b_Play_clear 22 = .ok (.putfield 49, 3) := by decide +kernel
theorem d_Play_clear_25 : decode b_Play_clear 25 = .ok (.aload_n 0, 1) := by decide +kernel
theorem d_Play_clear_26 : decode b_Play_clear 26 = .ok (.getfield 9, 3) := by decide +kernel
theorem d_Play_clear_29 : decode b_Play_clear 29 = .ok (.iconst 0, 1) := by decide +kernel
theorem d_Play_clear_30 : decode b_Play_clear 30 = .ok (.iconst 0, 1) := by decide +kernel
theorem d_Play_clear_31 : decode b_Play_clear 31 = .ok (.iastore, 1) := by decide +kernel
theorem d_Play_clear_32 : decode b_Play_clear 32 = .ok (.aload_n 0, 1) := by decide +kernel
theorem d_Play_clear_33 : decode b_Play_clear 33 = .ok (.getfield 9, 3) := by decide +kernel
theorem d_Play_clear_36 : decode b_Play_clear 36 = .ok (.iconst 1, 1) := by decide +kernel
theorem d_Play_clear_37 : decode b_Play_clear 37 = .ok (.iconst 0, 1) := by decide +kernel
theorem d_Play_clear_38 : decode b_Play_clear 38 = .ok (.iastore, 1) := by decide +kernel
theorem d_Play_clear_39 : decode b_Play_clear 39 = .ok (.aload_n 0, 1) := by decide +kernel
theorem d_Play_clear_40 : decode b_Play_clear 40 = .ok (.getfield 9, 3) := by decide +kernel
theorem d_Play_clear_43 : decode b_Play_clear 43 = .ok (.iconst 2, 1) := by decide +kernel
theorem d_Play_clear_44 : decode b_Play_clear 44 = .ok (.iconst 1, 1) := by decide +kernel
theorem d_Play_clear_45 : decode b_Play_clear 45 = .ok (.iastore, 1) := by decide +kernel
theorem d_Play_clear_46 : decode b_Play_clear 46 = .ok (.aload_n 0, 1) := by decide +kernel
theorem d_Play_clear_47 : decode b_Play_clear 47 = .ok (.getfield 9, 3) := by decide +kernel
theorem d_Play_clear_50 : decode b_Play_clear 50 = .ok (.iconst 3, 1) := by decide +kernel
theorem d_Play_clear_51 : decode b_Play_clear 51 = .ok (.iconst 0, 1) := by decide +kernel
theorem d_Play_clear_52 : decode b_Play_clear 52 = .ok (.iastore, 1) := by decide +kernel
theorem d_Play_clear_53 : decode b_Play_clear 53 = .ok (.aload_n 0, 1) := by decide +kernel
theorem d_Play_clear_54 : decode b_Play_clear 54 = .ok (.getfield 9, 3) := by decide +kernel
theorem d_Play_clear_57 : decode b_Play_clear 57 = .ok (.iconst 4, 1) := by decide +kernel
theorem d_Play_clear_58 : decode b_Play_clear 58 = .ok (.iconst 2, 1) := by decide +kernel
theorem d_Play_clear_59 : decode b_Play_clear 59 = .ok (.iastore, 1) := by decide +kernel
theorem d_Play_clear_60 : decode b_Play_clear 60 = .ok (.return_, 1) := by decide +kernel
theorem d_Arr_fill_0 : decode b_Arr_fill 0 = .ok (.iconst 0, 1) := by decide +kernel
theorem d_Arr_fill_1 : decode b_Arr_fill 1 = .ok (.istore_n 2, 1) := by decide +kernel
theorem d_Arr_fill_2 : decode b_Arr_fill 2 = .ok (.aload_n 0, 1) := by decide +kernel
theorem d_Arr_fill_3 : decode b_Arr_fill 3 = .ok (.arraylength, 1) := by decide +kernel
theorem d_Arr_fill_4 : decode b_Arr_fill 4 = .ok (.istore_n 3, 1) := by decide +kernel
theorem d_Arr_fill_5 : decode b_Arr_fill 5 = .ok (.iload_n 2, 1) := by decide +kernel
theorem d_Arr_fill_6 : decode b_Arr_fill 6 = .ok (.iload_n 3, 1) := by decide +kernel
theorem d_Arr_fill_7 : decode b_Arr_fill 7 = .ok (.if_icmp .ge 13, 3) := by decide +kernel
theorem d_Arr_fill_10 : decode b_Arr_fill 10 = .ok (.aload_n 0, 1) := by decide +kernel
theorem d_Arr_fill_11 : decode b_Arr_fill 11 = .ok (.iload_n 2, 1) := by decide +kernel
theorem d_Arr_fill_12 : decode b_Arr_fill 12 = .ok (.iload_n 1, 1) := by decide +kernel
theorem d_Arr_fill_13 : decode b_Arr_fill 13 = .ok (.iastore, 1) := by decide +kernel
theorem d_Arr_fill_14 : decode b_Arr_fill 14 = .ok (.iinc 2 1, 3) := by decide +kernel
theorem d_Arr_fill_17 : decode b_Arr_fill 17 = .ok (.goto (-12), 3) := by decide +kernel
theorem d_Arr_fill_20 : decode b_Arr_fill 20 = .ok (.return_, 1) := by decide +kernel
theorem d_Play_hasParty_0 : decode b_Play_hasParty 0 = .ok (.iload_n 1, 1) := by decide +kernel
theorem d_Play_hasParty_1 : decode b_Play_hasParty 1 = .ok (.ifCond .lt 15, 3) := by decide +kernel
theorem d_Play_hasParty_4 : decode b_Play_hasParty 4 = .ok (.iload_n 1, 1) := by decide +kernel
theorem d_Play_hasParty_5 : decode b_Play_hasParty 5 = .ok (.aload_n 0, 1) := by decide +kernel
theorem d_Play_hasParty_6 : decode b_Play_hasParty 6 = .ok (.getfield 36, 3) := by decide +kernel
theorem d_Play_hasParty_9 : decode b_Play_hasParty 9 = .ok (.if_icmp .ge 7, 3) := by decide +kernel
theorem d_Play_hasParty_12 : decode b_Play_hasParty 12 = .ok (.iconst 1, 1) := by decide +kernel
theorem d_Play_hasParty_13 : decode b_Play_hasParty 13 = .ok (.goto 4, 3) := by decide +kernel
theorem d_Play_hasParty_16 : decode b_Play_hasParty 16 = .ok (.iconst 0, 1) := by decide +kernel
theorem d_Play_hasParty_17 : decode b_Play_hasParty 17 = .ok (.ireturn, 1) := by decide +kernel
theorem d_Play_isLiar_0 : decode b_Play_isLiar 0 = .ok (.aload_n 0, 1) := by decide +kernel
theorem d_Play_isLiar_1 : decode b_Play_isLiar 1 = .ok (.iload_n 1, 1) := by decide +kernel
theorem d_Play_isLiar_2 : decode b_Play_isLiar 2 = .ok (.invokevirtual 58, 3) := by decide +kernel
theorem d_Play_isLiar_5 : decode b_Play_isLiar 5 = .ok (.ifCond .eq 18, 3) := by decide +kernel
theorem d_Play_isLiar_8 : decode b_Play_isLiar 8 = .ok (.aload_n 0, 1) := by decide +kernel
theorem d_Play_isLiar_9 : decode b_Play_isLiar 9 = .ok (.getfield 40, 3) := by decide +kernel
theorem d_Play_isLiar_12 : decode b_Play_isLiar 12 = .ok (.iload_n 1, 1) := by decide +kernel
theorem d_Play_isLiar_13 : decode b_Play_isLiar 13 = .ok (.ishr, 1) := by decide +kernel
theorem d_Play_isLiar_14 : decode b_Play_isLiar 14 = .ok (.iconst 1, 1) := by decide +kernel
theorem d_Play_isLiar_15 : decode b_Play_isLiar 15 = .ok (.iand, 1) := by decide +kernel
theorem d_Play_isLiar_16 : decode b_Play_isLiar 16 = .ok (.ifCond .eq 7, 3) := by decide +kernel
theorem d_Play_isLiar_19 : decode b_Play_isLiar 19 = .ok (.iconst 1, 1) := by decide +kernel
theorem d_Play_isLiar_20 : decode b_Play_isLiar 20 = .ok (.goto 4, 3) := by decide +kernel
theorem d_Play_isLiar_23 : decode b_Play_isLiar 23 = .ok (.iconst 0, 1) := by decide +kernel
theorem d_Play_isLiar_24 : decode b_Play_isLiar 24 = .ok (.ireturn, 1) := by decide +kernel
theorem d_Play_isHonest_0 : decode b_Play_isHonest 0 = .ok (.aload_n 0, 1) := by decide +kernel
theorem d_Play_isHonest_1 : decode b_Play_isHonest 1 = .ok (.iload_n 1, 1) := by decide +kernel
theorem d_Play_isHonest_2 : decode b_Play_isHonest 2 = .ok (.invokevirtual 58, 3) := by decide +kernel
theorem d_Play_isHonest_5 : decode b_Play_isHonest 5 = .ok (.ifCond .eq 18, 3) := by decide +kernel
theorem d_Play_isHonest_8 : decode b_Play_isHonest 8 = .ok (.aload_n 0, 1) := by decide +kernel
theorem d_Play_isHonest_9 : decode b_Play_isHonest 9 = .ok (.getfield 40, 3) := by decide +kernel
theorem d_Play_isHonest_12 : decode b_Play_isHonest 12 = .ok (.iload_n 1, 1) := by decide +kernel
theorem d_Play_isHonest_13 : decode b_Play_isHonest 13 = .ok (.ishr, 1) := by decide +kernel
theorem d_Play_isHonest_14 : decode b_Play_isHonest 14 = .ok (.iconst 1, 1) := by decide +kernel
theorem d_Play_isHonest_15 : decode b_Play_isHonest 15 = .ok (.iand, 1) := by decide +kernel
theorem d_Play_isHonest_16 : decode b_Play_isHonest 16 = .ok (.ifCond .ne 7, 3) := by decide +kernel
theorem d_Play_isHonest_19 : decode b_Play_isHonest 19 = .ok (.iconst 1, 1) := by decide +kernel
theorem d_Play_isHonest_20 : decode b_Play_isHonest 20 = .ok (.goto 4, 3) := by decide +kernel
theorem d_Play_isHonest_23 : decode b_Play_isHonest 23 = .ok (.iconst 0, 1) := by decide +kernel
theorem d_Play_isHonest_24 : decode b_Play_isHonest 24 = .ok (.ireturn, 1) := by decide +kernel
theorem d_Chain_size_0 : decode b_Chain_size 0 = .ok (.iload_n 0, 1) := by decide +kernel
theorem d_Chain_size_1 : decode b_Chain_size 1 = .ok (.bipush 15, 2) := by decide +kernel
theorem d_Chain_size_3 : decode b_Chain_size 3 = .ok (.iand, 1) := by decide +kernel
theorem d_Chain_size_4 : decode b_Chain_size 4 = .ok (.ireturn, 1) := by decide +kernel
theorem d_Chain_with_0 : decode b_Chain_with 0 = .ok (.iload_n 0, 1) := by decide +kernel
theorem d_Chain_with_1 : decode b_Chain_with 1 = .ok (.invokestatic 9, 3) := by decide +kernel
theorem d_Chain_with_4 : decode b_Chain_with 4 = .ok (.istore_n 2, 1) := by decide +kernel
theorem d_Chain_with_5 : decode b_Chain_with 5 = .ok (.iload_n 2, 1) := by decide +kernel
theorem d_Chain_with_6 : decode b_Chain_with 6 = .ok (.bipush 8, 2) := by decide +kernel
theorem d_Chain_with_8 : decode b_Chain_with 8 = .ok (.if_icmp .ge 17, 3) := by decide +kernel
theorem d_Chain_with_11 : decode b_Chain_with 11 = .ok (.iload_n 0, 1) := by decide +kernel
theorem d_Chain_with_12 : decode b_Chain_with 12 = .ok (.iload_n 1, 1) := by decide +kernel
theorem d_Chain_with_13 : decode b_Chain_with 13 = .ok (.iconst 4, 1) := by decide +kernel
theorem d_Chain_with_14 : decode b_Chain_with 14 = .ok (.iconst 3, 1) := by decide +kernel
theorem d_Chain_with_15 : decode b_Chain_with 15 = .ok (.iload_n 2, 1) := by decide +kernel
theorem d_Chain_with_16 : decode b_Chain_with 16 = .ok (.imul, 1) := by decide +kernel
theorem d_Chain_with_17 : decode b_Chain_with 17 = .ok (.iadd, 1) := by decide +kernel
theorem d_Chain_with_18 : decode b_Chain_with 18 = .ok (.ishl, 1) := by decide +kernel
theorem d_Chain_with_19 : decode b_Chain_with 19 = .ok (.ior, 1) := by decide +kernel
theorem d_Chain_with_20 : decode b_Chain_with 20 = .ok (.iconst 1, 1) := by decide +kernel
theorem d_Chain_with_21 : decode b_Chain_with 21 = .ok (.iadd, 1) := by decide +kernel
theorem d_Chain_with_22 : decode b_Chain_with 22 = .ok (.goto 4, 3) := by decide +kernel
theorem d_Chain_with_25 : decode b_Chain_with 25 = .ok (.iload_n 0, 1) := by decide +kernel
theorem d_Chain_with_26 : decode b_Chain_with 26 = .ok (.ireturn, 1) := by decide +kernel
theorem d_Route_of_0 : decode b_Route_of 0 = .ok (.bipush 64, 2) := by decide +kernel
theorem d_Route_of_2 : decode b_Route_of 2 = .ok (.iload_n 0, 1) := by decide +kernel
theorem d_Route_of_3 : decode b_Route_of 3 = .ok (.imul, 1) := by decide +kernel
theorem d_Route_of_4 : decode b_Route_of 4 = .ok (.bipush 8, 2) := by decide +kernel
theorem d_Route_of_6 : decode b_Route_of 6 = .ok (.iload_n 1, 1) := by decide +kernel
theorem d_Route_of_7 : decode b_Route_of 7 = .ok (.imul, 1) := by decide +kernel
theorem d_Route_of_8 : decode b_Route_of 8 = .ok (.iadd, 1) := by decide +kernel
theorem d_Route_of_9 : decode b_Route_of 9 = .ok (.iload_n 2, 1) := by decide +kernel
theorem d_Route_of_10 : decode b_Route_of 10 = .ok (.iadd, 1) := by decide +kernel
theorem d_Route_of_11 : decode b_Route_of 11 = .ok (.ireturn, 1) := by decide +kernel
theorem d_Route_roundOf_0 : decode b_Route_roundOf 0 = .ok (.iload_n 0, 1) := by decide +kernel
theorem d_Route_roundOf_1 : decode b_Route_roundOf 1 = .ok (.bipush 6, 2) := by decide +kernel
theorem d_Route_roundOf_3 : decode b_Route_roundOf 3 = .ok (.ishr, 1) := by decide +kernel
theorem d_Route_roundOf_4 : decode b_Route_roundOf 4 = .ok (.ireturn, 1) := by decide +kernel
theorem d_Route_fromOf_0 : decode b_Route_fromOf 0 = .ok (.iload_n 0, 1) := by decide +kernel
theorem d_Route_fromOf_1 : decode b_Route_fromOf 1 = .ok (.iconst 3, 1) := by decide +kernel
theorem d_Route_fromOf_2 : decode b_Route_fromOf 2 = .ok (.ishr, 1) := by decide +kernel
theorem d_Route_fromOf_3 : decode b_Route_fromOf 3 = .ok (.bipush 7, 2) := by decide +kernel
theorem d_Route_fromOf_5 : decode b_Route_fromOf 5 = .ok (.iand, 1) := by decide +kernel
theorem d_Route_fromOf_6 : decode b_Route_fromOf 6 = .ok (.ireturn, 1) := by decide +kernel
theorem d_Chain_markAt_0 : decode b_Chain_markAt 0 = .ok (.iload_n 0, 1) := by decide +kernel
theorem d_Chain_markAt_1 : decode b_Chain_markAt 1 = .ok (.iconst 4, 1) := by decide +kernel
theorem d_Chain_markAt_2 : decode b_Chain_markAt 2 = .ok (.iconst 3, 1) := by decide +kernel
theorem d_Chain_markAt_3 : decode b_Chain_markAt 3 = .ok (.iload_n 1, 1) := by decide +kernel
theorem d_Chain_markAt_4 : decode b_Chain_markAt 4 = .ok (.imul, 1) := by decide +kernel
theorem d_Chain_markAt_5 : decode b_Chain_markAt 5 = .ok (.iadd, 1) := by decide +kernel
theorem d_Chain_markAt_6 : decode b_Chain_markAt 6 = .ok (.ishr, 1) := by decide +kernel
theorem d_Chain_markAt_7 : decode b_Chain_markAt 7 = .ok (.bipush 7, 2) := by decide +kernel
theorem d_Chain_markAt_9 : decode b_Chain_markAt 9 = .ok (.iand, 1) := by decide +kernel
theorem d_Chain_markAt_10 : decode b_Chain_markAt 10 = .ok (.ireturn, 1) := by decide +kernel
theorem d_Route_toOf_0 : decode b_Route_toOf 0 = .ok (.iload_n 0, 1) := by decide +kernel
theorem d_Route_toOf_1 : decode b_Route_toOf 1 = .ok (.bipush 7, 2) := by decide +kernel
theorem d_Route_toOf_3 : decode b_Route_toOf 3 = .ok (.iand, 1) := by decide +kernel
theorem d_Route_toOf_4 : decode b_Route_toOf 4 = .ok (.ireturn, 1) := by decide +kernel
theorem d_Chain_bearers_0 : decode b_Chain_bearers 0 = .ok (.iconst 0, 1) := by decide +kernel
theorem d_Chain_bearers_1 : decode b_Chain_bearers 1 = .ok (.istore_n 1, 1) := by decide +kernel
theorem d_Chain_bearers_2 : decode b_Chain_bearers 2 = .ok (.iconst 0, 1) := by decide +kernel
theorem d_Chain_bearers_3 : decode b_Chain_bearers 3 = .ok (.istore_n 2, 1) := by decide +kernel
theorem d_Chain_bearers_4 : decode b_Chain_bearers 4 = .ok (.iload_n 2, 1) := by decide +kernel
theorem d_Chain_bearers_5 : decode b_Chain_bearers 5 = .ok (.iload_n 0, 1) := by decide +kernel
theorem d_Chain_bearers_6 : decode b_Chain_bearers 6 = .ok (.invokestatic 9, 3) := by decide +kernel
theorem d_Chain_bearers_9 : decode b_Chain_bearers 9 = .ok (.if_icmp .ge 19, 3) := by decide +kernel
theorem d_Chain_bearers_12 : decode b_Chain_bearers 12 = .ok (.iload_n 1, 1) := by decide +kernel
theorem d_Chain_bearers_13 : decode b_Chain_bearers 13 = .ok (.iconst 1, 1) := by decide +kernel
theorem d_Chain_bearers_14 : decode b_Chain_bearers 14 = .ok (.iload_n 0, 1) := by decide +kernel
theorem d_Chain_bearers_15 : decode b_Chain_bearers 15 = .ok (.iload_n 2, 1) := by decide +kernel
theorem d_Chain_bearers_16 : decode b_Chain_bearers 16 = .ok (.invokestatic 15, 3) := by decide +kernel
theorem d_Chain_bearers_19 : decode b_Chain_bearers 19 = .ok (.ishl, 1) := by decide +kernel
theorem d_Chain_bearers_20 : decode b_Chain_bearers 20 = .ok (.ior, 1) := by decide +kernel
theorem d_Chain_bearers_21 : decode b_Chain_bearers 21 = .ok (.istore_n 1, 1) := by decide +kernel
theorem d_Chain_bearers_22 : decode b_Chain_bearers 22 = .ok (.iinc 2 1, 3) := by decide +kernel
theorem d_Chain_bearers_25 : decode b_Chain_bearers 25 = .ok (.goto (-21), 3) := by decide +kernel
theorem d_Chain_bearers_28 : decode b_Chain_bearers 28 = .ok (.iload_n 1, 1) := by decide +kernel
theorem d_Chain_bearers_29 : decode b_Chain_bearers 29 = .ok (.ireturn, 1) := by decide +kernel
theorem d_Chain_bears_0 : decode b_Chain_bears 0 = .ok (.iload_n 0, 1) := by decide +kernel
theorem d_Chain_bears_1 : decode b_Chain_bears 1 = .ok (.invokestatic 19, 3) := by decide +kernel
theorem d_Chain_bears_4 : decode b_Chain_bears 4 = .ok (.iload_n 1, 1) := by decide +kernel
theorem d_Chain_bears_5 : decode b_Chain_bears 5 = .ok (.ishr, 1) := by decide +kernel
theorem d_Chain_bears_6 : decode b_Chain_bears 6 = .ok (.iconst 1, 1) := by decide +kernel
theorem d_Chain_bears_7 : decode b_Chain_bears 7 = .ok (.iand, 1) := by decide +kernel
theorem d_Chain_bears_8 : decode b_Chain_bears 8 = .ok (.ifCond .eq 7, 3) := by decide +kernel
theorem d_Chain_bears_11 : decode b_Chain_bears 11 = .ok (.iconst 1, 1) := by decide +kernel
theorem d_Chain_bears_12 : decode b_Chain_bears 12 = .ok (.goto 4, 3) := by decide +kernel
theorem d_Chain_bears_15 : decode b_Chain_bears 15 = .ok (.iconst 0, 1) := by decide +kernel
theorem d_Chain_bears_16 : decode b_Chain_bears 16 = .ok (.ireturn, 1) := by decide +kernel
theorem d_Play_addPlan_0 : decode b_Play_addPlan 0 = .ok (.aload_n 0, 1) := by decide +kernel
theorem d_Play_addPlan_1 : decode b_Play_addPlan 1 = .ok (.getfield 43, 3) := by decide +kernel
theorem d_Play_addPlan_4 : decode b_Play_addPlan 4 = .ok (.bipush 16, 2) := by decide +kernel
theorem d_Play_addPlan_6 : decode b_Play_addPlan 6 = .ok (.if_icmp .ge 43, 3) := by decide +kernel
theorem d_Play_addPlan_9 : decode b_Play_addPlan 9 = .ok (.aload_n 0, 1) := by decide +kernel
theorem d_Play_addPlan_10 : decode b_Play_addPlan 10 = .ok (.getfield 15, 3) := by decide +kernel
theorem d_Play_addPlan_13 : decode b_Play_addPlan 13 = .ok (.aload_n 0, 1) := by decide +kernel
theorem d_Play_addPlan_14 : decode b_Play_addPlan 14 = .ok (.getfield 43, 3) := by decide +kernel
theorem d_Play_addPlan_17 : decode b_Play_addPlan 17 = .ok (.iload_n 1, 1) := by decide +kernel
theorem d_Play_addPlan_18 : decode b_Play_addPlan 18 = .ok (.iastore, 1) := by decide +kernel
theorem d_Play_addPlan_19 : decode b_Play_addPlan 19 = .ok (.aload_n 0, 1) := by decide +kernel
theorem d_Play_addPlan_20 : decode b_Play_addPlan 20 = .ok (.getfield 18, 3) := by decide +kernel
theorem d_Play_addPlan_23 : decode b_Play_addPlan 23 = .ok (.aload_n 0, 1) := by decide +kernel
theorem d_Play_addPlan_24 : decode b_Play_addPlan 24 = .ok (.getfield 43, 3) := by decide +kernel
theorem d_Play_addPlan_27 : decode b_Play_addPlan 27 = .ok (.iload_n 2, 1) := by decide +kernel
theorem d_Play_addPlan_28 : decode b_Play_addPlan 28 = .ok (.iastore, 1) := by decide +kernel
theorem d_Play_addPlan_29 : decode b_Play_addPlan 29 = .ok (.aload_n 0, 1) := by decide +kernel
theorem d_Play_addPlan_30 : decode b_Play_addPlan 30 = .ok (.getfield 21, 3) := by decide +kernel
theorem d_Play_addPlan_33 : decode b_Play_addPlan 33 = .ok (.aload_n 0, 1) := by decide +kernel
theorem d_Play_addPlan_34 : decode b_Play_addPlan 34 = .ok (.getfield 43, 3) := by decide +kernel
theorem d_Play_addPlan_37 : decode b_Play_addPlan 37 = .ok (.iload_n 3, 1) := by decide +kernel
theorem d_Play_addPlan_38 : decode b_Play_addPlan 38 = .ok (.iastore, 1) := by decide +kernel
theorem d_Play_addPlan_39 : decode b_Play_addPlan 39 = .ok (.aload_n 0, 1) := by decide +kernel
theorem d_Play_addPlan_40 : decode b_Play_addPlan 40 = .ok (.dup, 1) := by decide +kernel
theorem d_Play_addPlan_41 : decode b_Play_addPlan 41 = .ok (.getfield 43, 3) := by decide +kernel
theorem d_Play_addPlan_44 : decode b_Play_addPlan 44 = .ok (.iconst 1, 1) := by decide +kernel
theorem d_Play_addPlan_45 : decode b_Play_addPlan 45 = .ok (.iadd, 1) := by decide +kernel
theorem d_Play_addPlan_46 : decode b_Play_addPlan 46 = .ok (.putfield 43, 3) := by decide +kernel
theorem d_Play_addPlan_49 : decode b_Play_addPlan 49 = .ok (.return_, 1) := by decide +kernel
theorem d_Play_isAmong_0 : decode b_Play_isAmong 0 = .ok (.iconst 0, 1) := by decide +kernel
theorem d_Play_isAmong_1 : decode b_Play_isAmong 1 = .ok (.istore_n 3, 1) := by decide +kernel
theorem d_Play_isAmong_2 : decode b_Play_isAmong 2 = .ok (.iload_n 3, 1) := by decide +kernel
theorem d_Play_isAmong_3 : decode b_Play_isAmong 3 = .ok (.iload_n 1, 1) := by decide +kernel
theorem d_Play_isAmong_4 : decode b_Play_isAmong 4 = .ok (.if_icmp .ge 24, 3) := by decide +kernel
theorem d_Play_isAmong_7 : decode b_Play_isAmong 7 = .ok (.iload_n 3, 1) := by decide +kernel
theorem d_Play_isAmong_8 : decode b_Play_isAmong 8 = .ok (.aload_n 0, 1) := by decide +kernel
theorem d_Play_isAmong_9 : decode b_Play_isAmong 9 = .ok (.arraylength, 1) := by decide +kernel
theorem d_Play_isAmong_10 : decode b_Play_isAmong 10 = .ok (.if_icmp .ge 18, 3) := by decide +kernel
theorem d_Play_isAmong_13 : decode b_Play_isAmong 13 = .ok (.aload_n 0, 1) := by decide +kernel
theorem d_Play_isAmong_14 : decode b_Play_isAmong 14 = .ok (.iload_n 3, 1) := by decide +kernel
theorem d_Play_isAmong_15 : decode b_Play_isAmong 15 = .ok (.iaload, 1) := by decide +kernel
theorem d_Play_isAmong_16 : decode b_Play_isAmong 16 = .ok (.iload_n 2, 1) := by decide +kernel
theorem d_Play_isAmong_17 : decode b_Play_isAmong 17 = .ok (.if_icmp .ne 5, 3) := by decide +kernel
theorem d_Play_isAmong_20 : decode b_Play_isAmong 20 = .ok (.iconst 1, 1) := by decide +kernel
theorem d_Play_isAmong_21 : decode b_Play_isAmong 21 = .ok (.ireturn, 1) := by decide +kernel
theorem d_Play_isAmong_22 : decode b_Play_isAmong 22 = .ok (.iinc 3 1, 3) := by decide +kernel
theorem d_Play_isAmong_25 : decode b_Play_isAmong 25 = .ok (.goto (-23), 3) := by decide +kernel
theorem d_Play_isAmong_28 : decode b_Play_isAmong 28 = .ok (.iconst 0, 1) := by decide +kernel
theorem d_Play_isAmong_29 : decode b_Play_isAmong 29 = .ok (.ireturn, 1) := by decide +kernel
theorem d_Play_isOmitted_0 : decode b_Play_isOmitted 0 = .ok (.aload_n 0, 1) := by decide +kernel
theorem d_Play_isOmitted_1 : decode b_Play_isOmitted 1 = .ok (.getfield 24, 3) := by decide +kernel
theorem d_Play_isOmitted_4 : decode b_Play_isOmitted 4 = .ok (.aload_n 0, 1) := by decide +kernel
theorem d_Play_isOmitted_5 : decode b_Play_isOmitted 5 = .ok (.getfield 46, 3) := by decide +kernel
theorem d_Play_isOmitted_8 : decode b_Play_isOmitted 8 = .ok (.iload_n 1, 1) := by decide +kernel
theorem d_Play_isOmitted_9 : decode b_Play_isOmitted 9 = .ok (.invokestatic 74, 3) := by decide +kernel
theorem d_Play_isOmitted_12 : decode b_Play_isOmitted 12 = .ok (.ireturn, 1) := by decide +kernel
theorem d_Play_addOmit_0 : decode b_Play_addOmit 0 = .ok (.aload_n 0, 1) := by decide +kernel
theorem d_Play_addOmit_1 : decode b_Play_addOmit 1 = .ok (.getfield 46, 3) := by decide +kernel
theorem d_Play_addOmit_4 : decode b_Play_addOmit 4 = .ok (.bipush 12, 2) := by decide +kernel
theorem d_Play_addOmit_6 : decode b_Play_addOmit 6 = .ok (.if_icmp .ge 23, 3) := by decide +kernel
theorem d_Play_addOmit_9 : decode b_Play_addOmit 9 = .ok (.aload_n 0, 1) := by decide +kernel
theorem d_Play_addOmit_10 : decode b_Play_addOmit 10 = .ok (.getfield 24, 3) := by decide +kernel
theorem d_Play_addOmit_13 : decode b_Play_addOmit 13 = .ok (.aload_n 0, 1) := by decide +kernel
theorem d_Play_addOmit_14 : decode b_Play_addOmit 14 = .ok (.getfield 46, 3) := by decide +kernel
theorem d_Play_addOmit_17 : decode b_Play_addOmit 17 = .ok (.iload_n 1, 1) := by decide +kernel
theorem d_Play_addOmit_18 : decode b_Play_addOmit 18 = .ok (.iastore, 1) := by decide +kernel
theorem d_Play_addOmit_19 : decode b_Play_addOmit 19 = .ok (.aload_n 0, 1) := by decide +kernel
theorem d_Play_addOmit_20 : decode b_Play_addOmit 20 = .ok (.dup, 1) := by decide +kernel
theorem d_Play_addOmit_21 : decode b_Play_addOmit 21 = .ok (.getfield 46, 3) := by decide +kernel
theorem d_Play_addOmit_24 : decode b_Play_addOmit 24 = .ok (.iconst 1, 1) := by decide +kernel
theorem d_Play_addOmit_25 : decode b_Play_addOmit 25 = .ok (.iadd, 1) := by decide +kernel
theorem d_Play_addOmit_26 : decode b_Play_addOmit 26 = .ok (.putfield 46, 3) := by decide +kernel
theorem d_Play_addOmit_29 : decode b_Play_addOmit 29 = .ok (.return_, 1) := by decide +kernel
theorem d_Play_isLate_0 : decode b_Play_isLate 0 = .ok (.aload_n 0, 1) := by decide +kernel
theorem d_Play_isLate_1 : decode b_Play_isLate 1 = .ok (.getfield 27, 3) := by decide +kernel
theorem d_Play_isLate_4 : decode b_Play_isLate 4 = .ok (.aload_n 0, 1) := by decide +kernel
theorem d_Play_isLate_5 : decode b_Play_isLate 5 = .ok (.getfield 49, 3) := by decide +kernel
theorem d_Play_isLate_8 : decode b_Play_isLate 8 = .ok (.iload_n 1, 1) := by decide +kernel
theorem d_Play_isLate_9 : decode b_Play_isLate 9 = .ok (.invokestatic 74, 3) := by decide +kernel
theorem d_Play_isLate_12 : decode b_Play_isLate 12 = .ok (.ireturn, 1) := by decide +kernel
theorem d_Play_addLate_0 : decode b_Play_addLate 0 = .ok (.aload_n 0, 1) := by decide +kernel
theorem d_Play_addLate_1 : decode b_Play_addLate 1 = .ok (.getfield 49, 3) := by decide +kernel
theorem d_Play_addLate_4 : decode b_Play_addLate 4 = .ok (.bipush 12, 2) := by decide +kernel
theorem d_Play_addLate_6 : decode b_Play_addLate 6 = .ok (.if_icmp .ge 33, 3) := by decide +kernel
theorem d_Play_addLate_9 : decode b_Play_addLate 9 = .ok (.aload_n 0, 1) := by decide +kernel
theorem d_Play_addLate_10 : decode b_Play_addLate 10 = .ok (.getfield 27, 3) := by decide +kernel
theorem d_Play_addLate_13 : decode b_Play_addLate 13 = .ok (.aload_n 0, 1) := by decide +kernel
theorem d_Play_addLate_14 : decode b_Play_addLate 14 = .ok (.getfield 49, 3) := by decide +kernel
theorem d_Play_addLate_17 : decode b_Play_addLate 17 = .ok (.iload_n 1, 1) := by decide +kernel
theorem d_Play_addLate_18 : decode b_Play_addLate 18 = .ok (.iastore, 1) := by decide +kernel
theorem d_Play_addLate_19 : decode b_Play_addLate 19 = .ok (.aload_n 0, 1) := by decide +kernel
theorem d_Play_addLate_20 : decode b_Play_addLate 20 = .ok (.getfield 30, 3) := by decide +kernel
theorem d_Play_addLate_23 : decode b_Play_addLate 23 = .ok (.aload_n 0, 1) := by decide +kernel
theorem d_Play_addLate_24 : decode b_Play_addLate 24 = .ok (.getfield 49, 3) := by decide +kernel
theorem d_Play_addLate_27 : decode b_Play_addLate 27 = .ok (.iload_n 2, 1) := by decide +kernel
theorem d_Play_addLate_28 : decode b_Play_addLate 28 = .ok (.iastore, 1) := by decide +kernel
theorem d_Play_addLate_29 : decode b_Play_addLate 29 = .ok (.aload_n 0, 1) := by decide +kernel
theorem d_Play_addLate_30 : decode b_Play_addLate 30 = .ok (.dup, 1) := by decide +kernel
theorem d_Play_addLate_31 : decode b_Play_addLate 31 = .ok (.getfield 49, 3) := by decide +kernel
theorem d_Play_addLate_34 : decode b_Play_addLate 34 = .ok (.iconst 1, 1) := by decide +kernel
theorem d_Play_addLate_35 : decode b_Play_addLate 35 = .ok (.iadd, 1) := by decide +kernel
theorem d_Play_addLate_36 : decode b_Play_addLate 36 = .ok (.putfield 49, 3) := by decide +kernel
theorem d_Play_addLate_39 : decode b_Play_addLate 39 = .ok (.return_, 1) := by decide +kernel
theorem d_Play_leastSetting_0 : decode b_Play_leastSetting 0 = .ok (.iload_n 1, 1) := by decide +kernel
theorem d_Play_leastSetting_1 : decode b_Play_leastSetting 1 = .ok (.iconst 2, 1) := by decide +kernel
theorem d_Play_leastSetting_2 : decode b_Play_leastSetting 2 = .ok (.if_icmp .eq 8, 3) := by decide +kernel
theorem d_Play_leastSetting_5 : decode b_Play_leastSetting 5 = .ok (.iload_n 1, 1) := by decide +kernel
theorem d_Play_leastSetting_6 : decode b_Play_leastSetting 6 = .ok (.iconst 4, 1) := by decide +kernel
theorem d_Play_leastSetting_7 : decode b_Play_leastSetting 7 = .ok (.if_icmp .ne 7, 3) := by decide +kernel
theorem d_Play_leastSetting_10 : decode b_Play_leastSetting 10 = .ok (.iconst 1, 1) := by decide +kernel
theorem d_Play_leastSetting_11 : decode b_Play_leastSetting 11 = .ok (.goto 4, 3) := by decide +kernel
theorem d_Play_leastSetting_14 : decode b_Play_leastSetting 14 = .ok (.iconst 0, 1) := by decide +kernel
theorem d_Play_leastSetting_15 : decode b_Play_leastSetting 15 = .ok (.ireturn, 1) := by decide +kernel
theorem d_Play_mostSetting_0 : decode b_Play_mostSetting 0 = .ok (.iload_n 1, 1) := by decide +kernel
theorem d_Play_mostSetting_1 : decode b_Play_mostSetting 1 = .ok (.tableswitch 47 0 4 #[35, 47, 42, 47, 45], 35) := by decide +kernel
theorem d_Play_mostSetting_36 : decode b_Play_mostSetting 36 = .ok (.aload_n 0, 1) := by decide +kernel
theorem d_Play_mostSetting_37 : decode b_Play_mostSetting 37 = .ok (.getfield 36, 3) := by decide +kernel
theorem d_Play_mostSetting_40 : decode b_Play_mostSetting 40 = .ok (.iconst 1, 1) := by decide +kernel
theorem d_Play_mostSetting_41 : decode b_Play_mostSetting 41 = .ok (.isub, 1) := by decide +kernel
theorem d_Play_mostSetting_42 : decode b_Play_mostSetting 42 = .ok (.ireturn, 1) := by decide +kernel
theorem d_Play_mostSetting_43 : decode b_Play_mostSetting 43 = .ok (.bipush 8, 2) := by decide +kernel
theorem d_Play_mostSetting_45 : decode b_Play_mostSetting 45 = .ok (.ireturn, 1) := by decide +kernel
theorem d_Play_mostSetting_46 : decode b_Play_mostSetting 46 = .ok (.iconst 4, 1) := by decide +kernel
theorem d_Play_mostSetting_47 : decode b_Play_mostSetting 47 = .ok (.ireturn, 1) := by decide +kernel
theorem d_Play_mostSetting_48 : decode b_Play_mostSetting 48 = .ok (.iconst 3, 1) := by decide +kernel
theorem d_Play_mostSetting_49 : decode b_Play_mostSetting 49 = .ok (.ireturn, 1) := by decide +kernel
theorem d_Play_become_0 : decode b_Play_become 0 = .ok (.aload_n 0, 1) := by decide +kernel
theorem d_Play_become_1 : decode b_Play_become 1 = .ok (.aload_n 1, 1) := by decide +kernel
theorem d_Play_become_2 : decode b_Play_become 2 = .ok (.getfield 36, 3) := by decide +kernel
theorem d_Play_become_5 : decode b_Play_become 5 = .ok (.putfield 36, 3) := by decide +kernel
theorem d_Play_become_8 : decode b_Play_become 8 = .ok (.aload_n 0, 1) := by decide +kernel
theorem d_Play_become_9 : decode b_Play_become 9 = .ok (.aload_n 1, 1) := by decide +kernel
theorem d_Play_become_10 : decode b_Play_become 10 = .ok (.getfield 40, 3) := by decide +kernel
theorem d_Play_become_13 : decode b_Play_become 13 = .ok (.putfield 40, 3) := by decide +kernel
theorem d_Play_become_16 : decode b_Play_become 16 = .ok (.aload_n 0, 1) := by decide +kernel
theorem d_Play_become_17 : decode b_Play_become 17 = .ok (.aload_n 1, 1) := by decide +kernel
theorem d_Play_become_18 : decode b_Play_become 18 = .ok (.getfield 43, 3) := by decide +kernel
theorem d_Play_become_21 : decode b_Play_become 21 = .ok (.putfield 43, 3) := by decide +kernel
theorem d_Play_become_24 : decode b_Play_become 24 = .ok (.aload_n 0, 1) := by decide +kernel
theorem d_Play_become_25 : decode b_Play_become 25 = .ok (.aload_n 1, 1) := by decide +kernel
theorem d_Play_become_26 : decode b_Play_become 26 = .ok (.getfield 46, 3) := by decide +kernel
theorem d_Play_become_29 : decode b_Play_become 29 = .ok (.putfield 46, 3) := by decide +kernel
theorem d_Play_become_32 : decode b_Play_become 32 = .ok (.aload_n 0, 1) := by decide +kernel
theorem d_Play_become_33 : decode b_Play_become 33 = .ok (.aload_n 1, 1) := by decide +kernel
theorem d_Play_become_34 : decode b_Play_become 34 = .ok (.getfield 49, 3) := by decide +kernel
theorem d_Play_become_37 : decode b_Play_become 37 = .ok (.putfield 49, 3) := by decide +kernel
theorem d_Play_become_40 : decode b_Play_become 40 = .ok (.aload_n 1, 1) := by decide +kernel
theorem d_Play_become_41 : decode b_Play_become 41 = .ok (.getfield 9, 3) := by decide +kernel
theorem d_Play_become_44 : decode b_Play_become 44 = .ok (.iconst 0, 1) := by decide +kernel
theorem d_Play_become_45 : decode b_Play_become 45 = .ok (.aload_n 0, 1) := by decide +kernel
theorem d_Play_become_46 : decode b_Play_become 46 = .ok (.getfield 9, 3) := by decide +kernel
theorem d_Play_become_49 : decode b_Play_become 49 = .ok (.iconst 0, 1) := by decide +kernel
theorem d_Play_become_50 : decode b_Play_become 50 = .ok (.iconst 5, 1) := by decide +kernel
theorem d_Play_become_51 : decode b_Play_become 51 = .ok (.invokestatic 52, 3) := by decide +kernel
theorem d_Play_become_54 : decode b_Play_become 54 = .ok (.aload_n 1, 1) := by decide +kernel
theorem d_Play_become_55 : decode b_Play_become 55 = .ok (.getfield 15, 3) := by decide +kernel
theorem d_Play_become_58 : decode b_Play_become 58 = .ok (.iconst 0, 1) := by decide +kernel
theorem d_Play_become_59 : decode b_Play_become 59 = .ok (.aload_n 0, 1) := by decide +kernel
theorem d_Play_become_60 : decode b_Play_become 60 = .ok (.getfield 15, 3) := by decide +kernel
theorem d_Play_become_63 : decode b_Play_become 63 = .ok (.iconst 0, 1) := by decide +kernel
theorem d_Play_become_64 : decode b_Play_become 64 = .ok (.bipush 16, 2) := by decide +kernel
theorem d_Play_become_66 : decode b_Play_become 66 = .ok (.invokestatic 52, 3) := by decide +kernel
theorem d_Play_become_69 : decode b_Play_become 69 = .ok (.aload_n 1, 1) := by decide +kernel
theorem d_Play_become_70 : decode b_Play_become 70 = .ok (.getfield 18, 3) := by decide +kernel
theorem d_Play_become_73 : decode b_Play_become 73 = .ok (.iconst 0, 1) := by decide +kernel
theorem d_Play_become_74 : decode b_Play_become 74 = .ok (.aload_n 0, 1) := by decide +kernel
theorem d_Play_become_75 : decode b_Play_become 75 = .ok (.getfield 18, 3) := by decide +kernel
theorem d_Play_become_78 : decode b_Play_become 78 = .ok (.iconst 0, 1) := by decide +kernel
theorem d_Play_become_79 : decode b_Play_become 79 = .ok (.bipush 16, 2) := by decide +kernel
theorem d_Play_become_81 : decode b_Play_become 81 = .ok (.invokestatic 52, 3) := by decide +kernel
theorem d_Play_become_84 : decode b_Play_become 84 = .ok (.aload_n 1, 1) := by decide +kernel
theorem d_Play_become_85 : decode b_Play_become 85 = .ok (.getfield 21, 3) := by decide +kernel
theorem d_Play_become_88 : decode b_Play_become 88 = .ok (.iconst 0, 1) := by decide +kernel
theorem d_Play_become_89 : decode b_Play_become 89 = .ok (.aload_n 0, 1) := by decide +kernel
theorem d_Play_become_90 : decode b_Play_become 90 = .ok (.getfield 21, 3) := by decide +kernel
theorem d_Play_become_93 : decode b_Play_become 93 = .ok (.iconst 0, 1) := by decide +kernel
theorem d_Play_become_94 : decode b_Play_become 94 = .ok (.bipush 16, 2) := by decide +kernel
theorem d_Play_become_96 : decode b_Play_become 96 = .ok (.invokestatic 52, 3) := by decide +kernel
theorem d_Play_become_99 : decode b_Play_become 99 = .ok (.aload_n 1, 1) := by decide +kernel
theorem d_Play_become_100 : decode b_Play_become 100 = .ok (.getfield 24, 3) := by decide +kernel
theorem d_Play_become_103 : decode b_Play_become 103 = .ok (.iconst 0, 1) := by decide +kernel
theorem d_Play_become_104 : decode b_Play_become 104 = .ok (.aload_n 0, 1) := by decide +kernel
theorem d_Play_become_105 : decode b_Play_become 105 = .ok (.getfield 24, 3) := by decide +kernel
theorem d_Play_become_108 : decode b_Play_become 108 = .ok (.iconst 0, 1) := by decide +kernel
theorem d_Play_become_109 : decode b_Play_become 109 = .ok (.bipush 12, 2) := by decide +kernel
theorem d_Play_become_111 : decode b_Play_become 111 = .ok (.invokestatic 52, 3) := by decide +kernel
theorem d_Play_become_114 : decode b_Play_become 114 = .ok (.aload_n 1, 1) := by decide +kernel
theorem d_Play_become_115 : decode b_Play_become 115 = .ok (.getfield 27, 3) := by decide +kernel
theorem d_Play_become_118 : decode b_Play_become 118 = .ok (.iconst 0, 1) := by decide +kernel
theorem d_Play_become_119 : decode b_Play_become 119 = .ok (.aload_n 0, 1) := by decide +kernel
theorem d_Play_become_120 : decode b_Play_become 120 = .ok (.getfield 27, 3) := by decide +kernel
theorem d_Play_become_123 : decode b_Play_become 123 = .ok (.iconst 0, 1) := by decide +kernel
theorem d_Play_become_124 : decode b_Play_become 124 = .ok (.bipush 12, 2) := by decide +kernel
theorem d_Play_become_126 : decode b_Play_become 126 = .ok (.invokestatic 52, 3) := by decide +kernel
theorem d_Play_become_129 : decode b_Play_become 129 = .ok (.aload_n 1, 1) := by decide +kernel
theorem d_Play_become_130 : decode b_Play_become 130 = .ok (.getfield 30, 3) := by decide +kernel
theorem d_Play_become_133 : decode b_Play_become 133 = .ok (.iconst 0, 1) := by decide +kernel
theorem d_Play_become_134 : decode b_Play_become 134 = .ok (.aload_n 0, 1) := by decide +kernel
theorem d_Play_become_135 : decode b_Play_become 135 = .ok (.getfield 30, 3) := by decide +kernel
theorem d_Play_become_138 : decode b_Play_become 138 = .ok (.iconst 0, 1) := by decide +kernel
theorem d_Play_become_139 : decode b_Play_become 139 = .ok (.bipush 12, 2) := by decide +kernel
theorem d_Play_become_141 : decode b_Play_become 141 = .ok (.invokestatic 52, 3) := by decide +kernel
theorem d_Play_become_144 : decode b_Play_become 144 = .ok (.return_, 1) := by decide +kernel
theorem d_Play_hasSetting_0 : decode b_Play_hasSetting 0 = .ok (.aload_n 0, 1) := by decide +kernel
theorem d_Play_hasSetting_1 : decode b_Play_hasSetting 1 = .ok (.getfield 36, 3) := by decide +kernel
theorem d_Play_hasSetting_4 : decode b_Play_hasSetting 4 = .ok (.ifCond .le 34, 3) := by decide +kernel
theorem d_Play_hasSetting_7 : decode b_Play_hasSetting 7 = .ok (.iload_n 1, 1) := by decide +kernel
theorem d_Play_hasSetting_8 : decode b_Play_hasSetting 8 = .ok (.ifCond .lt 30, 3) := by decide +kernel
theorem d_Play_hasSetting_11 : decode b_Play_hasSetting 11 = .ok (.iload_n 1, 1) := by decide +kernel
theorem d_Play_hasSetting_12 : decode b_Play_hasSetting 12 = .ok (.iconst 5, 1) := by decide +kernel
theorem d_Play_hasSetting_13 : decode b_Play_hasSetting 13 = .ok (.if_icmp .ge 25, 3) := by decide +kernel
theorem d_Play_hasSetting_16 : decode b_Play_hasSetting 16 = .ok (.iload_n 2, 1) := by decide +kernel
theorem d_Play_hasSetting_17 : decode b_Play_hasSetting 17 = .ok (.aload_n 0, 1) := by decide +kernel
theorem d_Play_hasSetting_18 : decode b_Play_hasSetting 18 = .ok (.iload_n 1, 1) := by decide +kernel
theorem d_Play_hasSetting_19 : decode b_Play_hasSetting 19 = .ok (.invokevirtual 62, 3) := by decide +kernel
theorem d_Play_hasSetting_22 : decode b_Play_hasSetting 22 = .ok (.if_icmp .lt 16, 3) := by decide +kernel
theorem d_Play_hasSetting_25 : decode b_Play_hasSetting 25 = .ok (.iload_n 2, 1) := by decide +kernel
theorem d_Play_hasSetting_26 : decode b_Play_hasSetting 26 = .ok (.aload_n 0, 1) := by decide +kernel
theorem d_Play_hasSetting_27 : decode b_Play_hasSetting 27 = .ok (.iload_n 1, 1) := by decide +kernel
theorem d_Play_hasSetting_28 : decode b_Play_hasSetting 28 = .ok (.invokevirtual 66, 3) := by decide +kernel
theorem d_Play_hasSetting_31 : decode b_Play_hasSetting 31 = .ok (.if_icmp .gt 7, 3) := by decide +kernel
theorem d_Play_hasSetting_34 : decode b_Play_hasSetting 34 = .ok (.iconst 1, 1) := by decide +kernel
theorem d_Play_hasSetting_35 : decode b_Play_hasSetting 35 = .ok (.goto 4, 3) := by decide +kernel
theorem d_Play_hasSetting_38 : decode b_Play_hasSetting 38 = .ok (.iconst 0, 1) := by decide +kernel
theorem d_Play_hasSetting_39 : decode b_Play_hasSetting 39 = .ok (.ireturn, 1) := by decide +kernel
theorem d_Chain_ofDigits_0 : decode b_Chain_ofDigits 0 = .ok (.iload_n 0, 1) := by decide +kernel
theorem d_Chain_ofDigits_1 : decode b_Chain_ofDigits 1 = .ok (.ifCond .le 12, 3) := by decide +kernel
theorem d_Chain_ofDigits_4 : decode b_Chain_ofDigits 4 = .ok (.iload_n 0, 1) := by decide +kernel
theorem d_Chain_ofDigits_5 : decode b_Chain_ofDigits 5 = .ok (.bipush 10, 2) := by decide +kernel
theorem d_Chain_ofDigits_7 : decode b_Chain_ofDigits 7 = .ok (.idiv, 1) := by decide +kernel
theorem d_Chain_ofDigits_8 : decode b_Chain_ofDigits 8 = .ok (.ldc 29, 2) := by decide +kernel
theorem d_Chain_ofDigits_10 : decode b_Chain_ofDigits 10 = .ok (.if_icmp .lt 5, 3) := by decide +kernel
theorem d_Chain_ofDigits_13 : decode b_Chain_ofDigits 13 = .ok (.iconst (-1), 1) := by decide +kernel
theorem d_Chain_ofDigits_14 : decode b_Chain_ofDigits 14 = .ok (.ireturn, 1) := by decide +kernel
theorem d_Chain_ofDigits_15 : decode b_Chain_ofDigits 15 = .ok (.iconst 0, 1) := by decide +kernel
theorem d_Chain_ofDigits_16 : decode b_Chain_ofDigits 16 = .ok (.istore_n 1, 1) := by decide +kernel
theorem d_Chain_ofDigits_17 : decode b_Chain_ofDigits 17 = .ok (.ldc 29, 2) := by decide +kernel
theorem d_Chain_ofDigits_19 : decode b_Chain_ofDigits 19 = .ok (.istore_n 2, 1) := by decide +kernel
theorem d_Chain_ofDigits_20 : decode b_Chain_ofDigits 20 = .ok (.iload_n 2, 1) := by decide +kernel
theorem d_Chain_ofDigits_21 : decode b_Chain_ofDigits 21 = .ok (.iconst 1, 1) := by decide +kernel
theorem d_Chain_ofDigits_22 : decode b_Chain_ofDigits 22 = .ok (.if_icmp .lt 69, 3) := by decide +kernel
theorem d_Chain_ofDigits_25 : decode b_Chain_ofDigits 25 = .ok (.iload_n 0, 1) := by decide +kernel
theorem d_Chain_ofDigits_26 : decode b_Chain_ofDigits 26 = .ok (.iload_n 2, 1) := by decide +kernel
theorem d_Chain_ofDigits_27 : decode b_Chain_ofDigits 27 = .ok (.idiv, 1) := by decide +kernel
theorem d_Chain_ofDigits_28 : decode b_Chain_ofDigits 28 = .ok (.bipush 10, 2) := by decide +kernel
theorem d_Chain_ofDigits_30 : decode b_Chain_ofDigits 30 = .ok (.irem, 1) := by decide +kernel
theorem d_Chain_ofDigits_31 : decode b_Chain_ofDigits 31 = .ok (.istore_n 3, 1) := by decide +kernel
theorem d_Chain_ofDigits_32 : decode b_Chain_ofDigits 32 = .ok (.iload_n 3, 1) := by decide +kernel
theorem d_Chain_ofDigits_33 : decode b_Chain_ofDigits 33 = .ok (.ifCond .ne 11, 3) := by decide +kernel
theorem d_Chain_ofDigits_36 : decode b_Chain_ofDigits 36 = .ok (.iload_n 1, 1) := by decide +kernel
theorem d_Chain_ofDigits_37 : decode b_Chain_ofDigits 37 = .ok (.ifCond .ne 7, 3) := by decide +kernel
theorem d_Chain_ofDigits_40 : decode b_Chain_ofDigits 40 = .ok (.iconst 1, 1) := by decide +kernel
theorem d_Chain_ofDigits_41 : decode b_Chain_ofDigits 41 = .ok (.goto 4, 3) := by decide +kernel
theorem d_Chain_ofDigits_44 : decode b_Chain_ofDigits 44 = .ok (.iconst 0, 1) := by decide +kernel
theorem d_Chain_ofDigits_45 : decode b_Chain_ofDigits 45 = .ok (.istore 4, 2) := by decide +kernel
theorem d_Chain_ofDigits_47 : decode b_Chain_ofDigits 47 = .ok (.iload 4, 2) := by decide +kernel
theorem d_Chain_ofDigits_49 : decode b_Chain_ofDigits 49 = .ok (.ifCond .ne 34, 3) := by decide +kernel
theorem d_Chain_ofDigits_52 : decode b_Chain_ofDigits 52 = .ok (.iload_n 3, 1) := by decide +kernel
theorem d_Chain_ofDigits_53 : decode b_Chain_ofDigits 53 = .ok (.iconst 1, 1) := by decide +kernel
theorem d_Chain_ofDigits_54 : decode b_Chain_ofDigits 54 = .ok (.if_icmp .lt 19, 3) := by decide +kernel
theorem d_Chain_ofDigits_57 : decode b_Chain_ofDigits 57 = .ok (.iload_n 3, 1) := by decide +kernel
theorem d_Chain_ofDigits_58 : decode b_Chain_ofDigits 58 = .ok (.bipush 8, 2) := by decide +kernel
theorem d_Chain_ofDigits_60 : decode b_Chain_ofDigits 60 = .ok (.if_icmp .gt 13, 3) := by decide +kernel
theorem d_Chain_ofDigits_63 : decode b_Chain_ofDigits 63 = .ok (.iload_n 1, 1) := by decide +kernel
theorem d_Chain_ofDigits_64 : decode b_Chain_ofDigits 64 = .ok (.iload_n 3, 1) := by decide +kernel
theorem d_Chain_ofDigits_65 : decode b_Chain_ofDigits 65 = .ok (.iconst 1, 1) := by decide +kernel
theorem d_Chain_ofDigits_66 : decode b_Chain_ofDigits 66 = .ok (.isub, 1) := by decide +kernel
theorem d_Chain_ofDigits_67 : decode b_Chain_ofDigits 67 = .ok (.invokestatic 30, 3) := by decide +kernel
theorem d_Chain_ofDigits_70 : decode b_Chain_ofDigits 70 = .ok (.ifCond .eq 5, 3) := by decide +kernel
theorem d_Chain_ofDigits_73 : decode b_Chain_ofDigits 73 = .ok (.iconst (-1), 1) := by decide +kernel
theorem d_Chain_ofDigits_74 : decode b_Chain_ofDigits 74 = .ok (.ireturn, 1) := by decide +kernel
theorem d_Chain_ofDigits_75 : decode b_Chain_ofDigits 75 = .ok (.iload_n 1, 1) := by decide +kernel
theorem d_Chain_ofDigits_76 : decode b_Chain_ofDigits 76 = .ok (.iload_n 3, 1) := by decide +kernel
theorem d_Chain_ofDigits_77 : decode b_Chain_ofDigits 77 = .ok (.iconst 1, 1) := by decide +kernel
theorem d_Chain_ofDigits_78 : decode b_Chain_ofDigits 78 = .ok (.isub, 1) := by decide +kernel
theorem d_Chain_ofDigits_79 : decode b_Chain_ofDigits 79 = .ok (.invokestatic 26, 3) := by decide +kernel
theorem d_Chain_ofDigits_82 : decode b_Chain_ofDigits 82 = .ok (.istore_n 1, 1) := by decide +kernel
theorem d_Chain_ofDigits_83 : decode b_Chain_ofDigits 83 = .ok (.iload_n 2, 1) := by decide +kernel
theorem d_Chain_ofDigits_84 : decode b_Chain_ofDigits 84 = .ok (.bipush 10, 2) := by decide +kernel
theorem d_Chain_ofDigits_86 : decode b_Chain_ofDigits 86 = .ok (.idiv, 1) := by decide +kernel
theorem d_Chain_ofDigits_87 : decode b_Chain_ofDigits 87 = .ok (.istore_n 2, 1) := by decide +kernel
theorem d_Chain_ofDigits_88 : decode b_Chain_ofDigits 88 = .ok (.goto (-68), 3) := by decide +kernel
theorem d_Chain_ofDigits_91 : decode b_Chain_ofDigits 91 = .ok (.iload_n 1, 1) := by decide +kernel
theorem d_Chain_ofDigits_92 : decode b_Chain_ofDigits 92 = .ok (.ireturn, 1) := by decide +kernel
theorem d_Play_hasRoute_0 : decode b_Play_hasRoute 0 = .ok (.iload_n 1, 1) := by decide +kernel
theorem d_Play_hasRoute_1 : decode b_Play_hasRoute 1 = .ok (.iconst 1, 1) := by decide +kernel
theorem d_Play_hasRoute_2 : decode b_Play_hasRoute 2 = .ok (.if_icmp .lt 34, 3) := by decide +kernel
theorem d_Play_hasRoute_5 : decode b_Play_hasRoute 5 = .ok (.iload_n 1, 1) := by decide +kernel
theorem d_Play_hasRoute_6 : decode b_Play_hasRoute 6 = .ok (.bipush 8, 2) := by decide +kernel
theorem d_Play_hasRoute_8 : decode b_Play_hasRoute 8 = .ok (.if_icmp .gt 28, 3) := by decide +kernel
theorem d_Play_hasRoute_11 : decode b_Play_hasRoute 11 = .ok (.aload_n 0, 1) := by decide +kernel
theorem d_Play_hasRoute_12 : decode b_Play_hasRoute 12 = .ok (.iload_n 2, 1) := by decide +kernel
theorem d_Play_hasRoute_13 : decode b_Play_hasRoute 13 = .ok (.invokevirtual 58, 3) := by decide +kernel
theorem d_Play_hasRoute_16 : decode b_Play_hasRoute 16 = .ok (.ifCond .eq 20, 3) := by decide +kernel
theorem d_Play_hasRoute_19 : decode b_Play_hasRoute 19 = .ok (.aload_n 0, 1) := by decide +kernel
theorem d_Play_hasRoute_20 : decode b_Play_hasRoute 20 = .ok (.iload_n 3, 1) := by decide +kernel
theorem d_Play_hasRoute_21 : decode b_Play_hasRoute 21 = .ok (.invokevirtual 58, 3) := by decide +kernel
theorem d_Play_hasRoute_24 : decode b_Play_hasRoute 24 = .ok (.ifCond .eq 12, 3) := by decide +kernel
theorem d_Play_hasRoute_27 : decode b_Play_hasRoute 27 = .ok (.iload_n 2, 1) := by decide +kernel
theorem d_Play_hasRoute_28 : decode b_Play_hasRoute 28 = .ok (.iload_n 3, 1) := by decide +kernel
theorem d_Play_hasRoute_29 : decode b_Play_hasRoute 29 = .ok (.if_icmp .eq 7, 3) := by decide +kernel
theorem d_Play_hasRoute_32 : decode b_Play_hasRoute 32 = .ok (.iconst 1, 1) := by decide +kernel
theorem d_Play_hasRoute_33 : decode b_Play_hasRoute 33 = .ok (.goto 4, 3) := by decide +kernel
theorem d_Play_hasRoute_36 : decode b_Play_hasRoute 36 = .ok (.iconst 0, 1) := by decide +kernel
theorem d_Play_hasRoute_37 : decode b_Play_hasRoute 37 = .ok (.ireturn, 1) := by decide +kernel
theorem d_Play_hasMarks_0 : decode b_Play_hasMarks 0 = .ok (.iload_n 1, 1) := by decide +kernel
theorem d_Play_hasMarks_1 : decode b_Play_hasMarks 1 = .ok (.iconst (-1), 1) := by decide +kernel
theorem d_Play_hasMarks_2 : decode b_Play_hasMarks 2 = .ok (.if_icmp .eq 19, 3) := by decide +kernel
theorem d_Play_hasMarks_5 : decode b_Play_hasMarks 5 = .ok (.iload_n 1, 1) := by decide +kernel
theorem d_Play_hasMarks_6 : decode b_Play_hasMarks 6 = .ok (.invokestatic 69, 3) := by decide +kernel
theorem d_Play_hasMarks_9 : decode b_Play_hasMarks 9 = .ok (.aload_n 0, 1) := by decide +kernel
theorem d_Play_hasMarks_10 : decode b_Play_hasMarks 10 = .ok (.getfield 36, 3) := by decide +kernel
theorem d_Play_hasMarks_13 : decode b_Play_hasMarks 13 = .ok (.ishr, 1) := by decide +kernel
theorem d_Play_hasMarks_14 : decode b_Play_hasMarks 14 = .ok (.ifCond .ne 7, 3) := by decide +kernel
theorem d_Play_hasMarks_17 : decode b_Play_hasMarks 17 = .ok (.iconst 1, 1) := by decide +kernel
theorem d_Play_hasMarks_18 : decode b_Play_hasMarks 18 = .ok (.goto 4, 3) := by decide +kernel
theorem d_Play_hasMarks_21 : decode b_Play_hasMarks 21 = .ok (.iconst 0, 1) := by decide +kernel
theorem d_Play_hasMarks_22 : decode b_Play_hasMarks 22 = .ok (.ireturn, 1) := by decide +kernel
theorem d_Play_sizeOf_0 : decode b_Play_sizeOf 0 = .ok (.iload_n 1, 1) := by decide +kernel
theorem d_Play_sizeOf_1 : decode b_Play_sizeOf 1 = .ok (.tableswitch 42 0 2 #[27, 32, 37], 27) := by decide +kernel
theorem d_Play_sizeOf_28 : decode b_Play_sizeOf 28 = .ok (.aload_n 0, 1) := by decide +kernel
theorem d_Play_sizeOf_29 : decode b_Play_sizeOf 29 = .ok (.getfield 43, 3) := by decide +kernel
theorem d_Play_sizeOf_32 : decode b_Play_sizeOf 32 = .ok (.ireturn, 1) := by decide +kernel
theorem d_Play_sizeOf_33 : decode b_Play_sizeOf 33 = .ok (.aload_n 0, 1) := by decide +kernel
theorem d_Play_sizeOf_34 : decode b_Play_sizeOf 34 = .ok (.getfield 46, 3) := by decide +kernel
theorem d_Play_sizeOf_37 : decode b_Play_sizeOf 37 = .ok (.ireturn, 1) := by decide +kernel
theorem d_Play_sizeOf_38 : decode b_Play_sizeOf 38 = .ok (.aload_n 0, 1) := by decide +kernel
theorem d_Play_sizeOf_39 : decode b_Play_sizeOf 39 = .ok (.getfield 49, 3) := by decide +kernel
theorem d_Play_sizeOf_42 : decode b_Play_sizeOf 42 = .ok (.ireturn, 1) := by decide +kernel
theorem d_Play_sizeOf_43 : decode b_Play_sizeOf 43 = .ok (.iconst 0, 1) := by decide +kernel
theorem d_Play_sizeOf_44 : decode b_Play_sizeOf 44 = .ok (.ireturn, 1) := by decide +kernel
theorem d_Play_closeGap_0 : decode b_Play_closeGap 0 = .ok (.iload_n 1, 1) := by decide +kernel
theorem d_Play_closeGap_1 : decode b_Play_closeGap 1 = .ok (.iconst 0, 1) := by decide +kernel
theorem d_Play_closeGap_2 : decode b_Play_closeGap 2 = .ok (.invokestatic 82, 3) := by decide +kernel
theorem d_Play_closeGap_5 : decode b_Play_closeGap 5 = .ok (.iconst 1, 1) := by decide +kernel
theorem d_Play_closeGap_6 : decode b_Play_closeGap 6 = .ok (.iadd, 1) := by decide +kernel
theorem d_Play_closeGap_7 : decode b_Play_closeGap 7 = .ok (.istore_n 2, 1) := by decide +kernel
theorem d_Play_closeGap_8 : decode b_Play_closeGap 8 = .ok (.iload_n 2, 1) := by decide +kernel
theorem d_Play_closeGap_9 : decode b_Play_closeGap 9 = .ok (.aload_n 0, 1) := by decide +kernel
theorem d_Play_closeGap_10 : decode b_Play_closeGap 10 = .ok (.arraylength, 1) := by decide +kernel
theorem d_Play_closeGap_11 : decode b_Play_closeGap 11 = .ok (.if_icmp .ge 17, 3) := by decide +kernel
theorem d_Play_closeGap_14 : decode b_Play_closeGap 14 = .ok (.aload_n 0, 1) := by decide +kernel
theorem d_Play_closeGap_15 : decode b_Play_closeGap 15 = .ok (.iload_n 2, 1) := by decide +kernel
theorem d_Play_closeGap_16 : decode b_Play_closeGap 16 = .ok (.iconst 1, 1) := by decide +kernel
theorem d_Play_closeGap_17 : decode b_Play_closeGap 17 = .ok (.isub, 1) := by decide +kernel
theorem d_Play_closeGap_18 : decode b_Play_closeGap 18 = .ok (.aload_n 0, 1) := by decide +kernel
theorem d_Play_closeGap_19 : decode b_Play_closeGap 19 = .ok (.iload_n 2, 1) := by decide +kernel
theorem d_Play_closeGap_20 : decode b_Play_closeGap 20 = .ok (.iaload, 1) := by decide +kernel
theorem d_Play_closeGap_21 : decode b_Play_closeGap 21 = .ok (.iastore, 1) := by decide +kernel
theorem d_Play_closeGap_22 : decode b_Play_closeGap 22 = .ok (.iinc 2 1, 3) := by decide +kernel
theorem d_Play_closeGap_25 : decode b_Play_closeGap 25 = .ok (.goto (-17), 3) := by decide +kernel
theorem d_Play_closeGap_28 : decode b_Play_closeGap 28 = .ok (.return_, 1) := by decide +kernel
theorem d_Play_remove_0 : decode b_Play_remove 0 = .ok (.iload_n 1, 1) := by decide +kernel
theorem d_Play_remove_1 : decode b_Play_remove 1 = .ok (.tableswitch 114 0 2 #[27, 64, 85], 27) := by decide +kernel
theorem d_Play_remove_28 : decode b_Play_remove 28 = .ok (.aload_n 0, 1) := by decide +kernel
theorem d_Play_remove_29 : decode b_Play_remove 29 = .ok (.getfield 15, 3) := by decide +kernel
theorem d_Play_remove_32 : decode b_Play_remove 32 = .ok (.iload_n 2, 1) := by decide +kernel
theorem d_Play_remove_33 : decode b_Play_remove 33 = .ok (.invokestatic 78, 3) := by decide +kernel
theorem d_Play_remove_36 : decode b_Play_remove 36 = .ok (.aload_n 0, 1) := by decide +kernel
theorem d_Play_remove_37 : decode b_Play_remove 37 = .ok (.getfield 18, 3) := by decide +kernel
theorem d_Play_remove_40 : decode b_Play_remove 40 = .ok (.iload_n 2, 1) := by decide +kernel
theorem d_Play_remove_41 : decode b_Play_remove 41 = .ok (.invokestatic 78, 3) := by decide +kernel
theorem d_Play_remove_44 : decode b_Play_remove 44 = .ok (.aload_n 0, 1) := by decide +kernel
theorem d_Play_remove_45 : decode b_Play_remove 45 = .ok (.getfield 21, 3) := by decide +kernel
theorem d_Play_remove_48 : decode b_Play_remove 48 = .ok (.iload_n 2, 1) := by decide +kernel
theorem d_Play_remove_49 : decode b_Play_remove 49 = .ok (.invokestatic 78, 3) := by decide +kernel
theorem d_Play_remove_52 : decode b_Play_remove 52 = .ok (.aload_n 0, 1) := by decide +kernel
theorem d_Play_remove_53 : decode b_Play_remove 53 = .ok (.dup, 1) := by decide +kernel
theorem d_Play_remove_54 : decode b_Play_remove 54 = .ok (.getfield 43, 3) := by decide +kernel
theorem d_Play_remove_57 : decode b_Play_remove 57 = .ok (.iconst 1, 1) := by decide +kernel
theorem d_Play_remove_58 : decode b_Play_remove 58 = .ok (.isub, 1) := by decide +kernel
theorem d_Play_remove_59 : decode b_Play_remove 59 = .ok (.putfield 43, 3) := by decide +kernel
theorem d_Play_remove_62 : decode b_Play_remove 62 = .ok (.goto 53, 3) := by decide +kernel
theorem d_Play_remove_65 : decode b_Play_remove 65 = .ok (.aload_n 0, 1) := by decide +kernel
theorem d_Play_remove_66 : decode b_Play_remove 66 = .ok (.getfield 24, 3) := by decide +kernel
theorem d_Play_remove_69 : decode b_Play_remove 69 = .ok (.iload_n 2, 1) := by decide +kernel
theorem d_Play_remove_70 : decode b_Play_remove 70 = .ok (.invokestatic 78, 3) := by decide +kernel
theorem d_Play_remove_73 : decode b_Play_remove 73 = .ok (.aload_n 0, 1) := by decide +kernel
theorem d_Play_remove_74 : decode b_Play_remove 74 = .ok (.dup, 1) := by decide +kernel
theorem d_Play_remove_75 : decode b_Play_remove 75 = .ok (.getfield 46, 3) := by decide +kernel
theorem d_Play_remove_78 : decode b_Play_remove 78 = .ok (.iconst 1, 1) := by decide +kernel
theorem d_Play_remove_79 : decode b_Play_remove 79 = .ok (.isub, 1) := by decide +kernel
theorem d_Play_remove_80 : decode b_Play_remove 80 = .ok (.putfield 46, 3) := by decide +kernel
theorem d_Play_remove_83 : decode b_Play_remove 83 = .ok (.goto 32, 3) := by decide +kernel
theorem d_Play_remove_86 : decode b_Play_remove 86 = .ok (.aload_n 0, 1) := by decide +kernel
theorem d_Play_remove_87 : decode b_Play_remove 87 = .ok (.getfield 27, 3) := by decide +kernel
theorem d_Play_remove_90 : decode b_Play_remove 90 = .ok (.iload_n 2, 1) := by decide +kernel
theorem d_Play_remove_91 : decode b_Play_remove 91 = .ok (.invokestatic 78, 3) := by decide +kernel
theorem d_Play_remove_94 : decode b_Play_remove 94 = .ok (.aload_n 0, 1) := by decide +kernel
theorem d_Play_remove_95 : decode b_Play_remove 95 = .ok (.getfield 30, 3) := by decide +kernel
theorem d_Play_remove_98 : decode b_Play_remove 98 = .ok (.iload_n 2, 1) := by decide +kernel
theorem d_Play_remove_99 : decode b_Play_remove 99 = .ok (.invokestatic 78, 3) := by decide +kernel
theorem d_Play_remove_102 : decode b_Play_remove 102 = .ok (.aload_n 0, 1) := by decide +kernel
theorem d_Play_remove_103 : decode b_Play_remove 103 = .ok (.dup, 1) := by decide +kernel
theorem d_Play_remove_104 : decode b_Play_remove 104 = .ok (.getfield 49, 3) := by decide +kernel
theorem d_Play_remove_107 : decode b_Play_remove 107 = .ok (.iconst 1, 1) := by decide +kernel
theorem d_Play_remove_108 : decode b_Play_remove 108 = .ok (.isub, 1) := by decide +kernel
theorem d_Play_remove_109 : decode b_Play_remove 109 = .ok (.putfield 49, 3) := by decide +kernel
theorem d_Play_remove_112 : decode b_Play_remove 112 = .ok (.goto 3, 3) := by decide +kernel
theorem d_Play_remove_115 : decode b_Play_remove 115 = .ok (.return_, 1) := by decide +kernel
theorem d_Int_bitCount_0 : decode b_Int_bitCount 0 = .ok (.iload_n 0, 1) := by decide +kernel
theorem d_Int_bitCount_1 : decode b_Int_bitCount 1 = .ok (.iload_n 0, 1) := by decide +kernel
theorem d_Int_bitCount_2 : decode b_Int_bitCount 2 = .ok (.iconst 1, 1) := by decide +kernel
theorem d_Int_bitCount_3 : decode b_Int_bitCount 3 = .ok (.iushr, 1) := by decide +kernel
theorem d_Int_bitCount_4 : decode b_Int_bitCount 4 = .ok (.ldc_w 265, 3) := by decide +kernel
theorem d_Int_bitCount_7 : decode b_Int_bitCount 7 = .ok (.iand, 1) := by decide +kernel
theorem d_Int_bitCount_8 : decode b_Int_bitCount 8 = .ok (.isub, 1) := by decide +kernel
theorem d_Int_bitCount_9 : decode b_Int_bitCount 9 = .ok (.istore_n 0, 1) := by decide +kernel
theorem d_Int_bitCount_10 : decode b_Int_bitCount 10 = .ok (.iload_n 0, 1) := by decide +kernel
theorem d_Int_bitCount_11 : decode b_Int_bitCount 11 = .ok (.ldc_w 266, 3) := by decide +kernel
theorem d_Int_bitCount_14 : decode b_Int_bitCount 14 = .ok (.iand, 1) := by decide +kernel
theorem d_Int_bitCount_15 : decode b_Int_bitCount 15 = .ok (.iload_n 0, 1) := by decide +kernel
theorem d_Int_bitCount_16 : decode b_Int_bitCount 16 = .ok (.iconst 2, 1) := by decide +kernel
theorem d_Int_bitCount_17 : decode b_Int_bitCount 17 = .ok (.iushr, 1) := by decide +kernel
theorem d_Int_bitCount_18 : decode b_Int_bitCount 18 = .ok (.ldc_w 266, 3) := by decide +kernel
theorem d_Int_bitCount_21 : decode b_Int_bitCount 21 = .ok (.iand, 1) := by decide +kernel
theorem d_Int_bitCount_22 : decode b_Int_bitCount 22 = .ok (.iadd, 1) := by decide +kernel
theorem d_Int_bitCount_23 : decode b_Int_bitCount 23 = .ok (.istore_n 0, 1) := by decide +kernel
theorem d_Int_bitCount_24 : decode b_Int_bitCount 24 = .ok (.iload_n 0, 1) := by decide +kernel
theorem d_Int_bitCount_25 : decode b_Int_bitCount 25 = .ok (.iload_n 0, 1) := by decide +kernel
theorem d_Int_bitCount_26 : decode b_Int_bitCount 26 = .ok (.iconst 4, 1) := by decide +kernel
theorem d_Int_bitCount_27 : decode b_Int_bitCount 27 = .ok (.iushr, 1) := by decide +kernel
theorem d_Int_bitCount_28 : decode b_Int_bitCount 28 = .ok (.iadd, 1) := by decide +kernel
theorem d_Int_bitCount_29 : decode b_Int_bitCount 29 = .ok (.ldc_w 267, 3) := by decide +kernel
theorem d_Int_bitCount_32 : decode b_Int_bitCount 32 = .ok (.iand, 1) := by decide +kernel
theorem d_Int_bitCount_33 : decode b_Int_bitCount 33 = .ok (.istore_n 0, 1) := by decide +kernel
theorem d_Int_bitCount_34 : decode b_Int_bitCount 34 = .ok (.iload_n 0, 1) := by decide +kernel
theorem d_Int_bitCount_35 : decode b_Int_bitCount 35 = .ok (.iload_n 0, 1) := by decide +kernel
theorem d_Int_bitCount_36 : decode b_Int_bitCount 36 = .ok (.bipush 8, 2) := by decide +kernel
theorem d_Int_bitCount_38 : decode b_Int_bitCount 38 = .ok (.iushr, 1) := by decide +kernel
theorem d_Int_bitCount_39 : decode b_Int_bitCount 39 = .ok (.iadd, 1) := by decide +kernel
theorem d_Int_bitCount_40 : decode b_Int_bitCount 40 = .ok (.istore_n 0, 1) := by decide +kernel
theorem d_Int_bitCount_41 : decode b_Int_bitCount 41 = .ok (.iload_n 0, 1) := by decide +kernel
theorem d_Int_bitCount_42 : decode b_Int_bitCount 42 = .ok (.iload_n 0, 1) := by decide +kernel
theorem d_Int_bitCount_43 : decode b_Int_bitCount 43 = .ok (.bipush 16, 2) := by decide +kernel
theorem d_Int_bitCount_45 : decode b_Int_bitCount 45 = .ok (.iushr, 1) := by decide +kernel
theorem d_Int_bitCount_46 : decode b_Int_bitCount 46 = .ok (.iadd, 1) := by decide +kernel
theorem d_Int_bitCount_47 : decode b_Int_bitCount 47 = .ok (.istore_n 0, 1) := by decide +kernel
theorem d_Int_bitCount_48 : decode b_Int_bitCount 48 = .ok (.iload_n 0, 1) := by decide +kernel
theorem d_Int_bitCount_49 : decode b_Int_bitCount 49 = .ok (.bipush 63, 2) := by decide +kernel
theorem d_Int_bitCount_51 : decode b_Int_bitCount 51 = .ok (.iand, 1) := by decide +kernel
theorem d_Int_bitCount_52 : decode b_Int_bitCount 52 = .ok (.ireturn, 1) := by decide +kernel
theorem d_Play_honest_0 : decode b_Play_honest 0 = .ok (.iconst 1, 1) := by decide +kernel
theorem d_Play_honest_1 : decode b_Play_honest 1 = .ok (.aload_n 0, 1) := by decide +kernel
theorem d_Play_honest_2 : decode b_Play_honest 2 = .ok (.getfield 36, 3) := by decide +kernel
theorem d_Play_honest_5 : decode b_Play_honest 5 = .ok (.ishl, 1) := by decide +kernel
theorem d_Play_honest_6 : decode b_Play_honest 6 = .ok (.iconst 1, 1) := by decide +kernel
theorem d_Play_honest_7 : decode b_Play_honest 7 = .ok (.isub, 1) := by decide +kernel
theorem d_Play_honest_8 : decode b_Play_honest 8 = .ok (.aload_n 0, 1) := by decide +kernel
theorem d_Play_honest_9 : decode b_Play_honest 9 = .ok (.getfield 40, 3) := by decide +kernel
theorem d_Play_honest_12 : decode b_Play_honest 12 = .ok (.iconst (-1), 1) := by decide +kernel
theorem d_Play_honest_13 : decode b_Play_honest 13 = .ok (.ixor, 1) := by decide +kernel
theorem d_Play_honest_14 : decode b_Play_honest 14 = .ok (.iand, 1) := by decide +kernel
theorem d_Play_honest_15 : decode b_Play_honest 15 = .ok (.ireturn, 1) := by decide +kernel
theorem d_Play_liarsChain_0 : decode b_Play_liarsChain 0 = .ok (.aload_n 0, 1) := by decide +kernel
theorem d_Play_liarsChain_1 : decode b_Play_liarsChain 1 = .ok (.getfield 9, 3) := by decide +kernel
theorem d_Play_liarsChain_4 : decode b_Play_liarsChain 4 = .ok (.iconst 0, 1) := by decide +kernel
theorem d_Play_liarsChain_5 : decode b_Play_liarsChain 5 = .ok (.iaload, 1) := by decide +kernel
theorem d_Play_liarsChain_6 : decode b_Play_liarsChain 6 = .ok (.istore_n 2, 1) := by decide +kernel
theorem d_Play_liarsChain_7 : decode b_Play_liarsChain 7 = .ok (.iconst 0, 1) := by decide +kernel
theorem d_Play_liarsChain_8 : decode b_Play_liarsChain 8 = .ok (.iload_n 2, 1) := by decide +kernel
theorem d_Play_liarsChain_9 : decode b_Play_liarsChain 9 = .ok (.invokestatic 98, 3) := by decide +kernel
theorem d_Play_liarsChain_12 : decode b_Play_liarsChain 12 = .ok (.istore_n 3, 1) := by decide +kernel
theorem d_Play_liarsChain_13 : decode b_Play_liarsChain 13 = .ok (.iconst 0, 1) := by decide +kernel
theorem d_Play_liarsChain_14 : decode b_Play_liarsChain 14 = .ok (.istore 4, 2) := by decide +kernel
theorem d_Play_liarsChain_16 : decode b_Play_liarsChain 16 = .ok (.iload 4, 2) := by decide +kernel
theorem d_Play_liarsChain_18 : decode b_Play_liarsChain 18 = .ok (.aload_n 0, 1) := by decide +kernel
theorem d_Play_liarsChain_19 : decode b_Play_liarsChain 19 = .ok (.getfield 36, 3) := by decide +kernel
theorem d_Play_liarsChain_22 : decode b_Play_liarsChain 22 = .ok (.if_icmp .ge 39, 3) := by decide +kernel
theorem d_Play_liarsChain_25 : decode b_Play_liarsChain 25 = .ok (.aload_n 0, 1) := by decide +kernel
theorem d_Play_liarsChain_26 : decode b_Play_liarsChain 26 = .ok (.iload 4, 2) := by decide +kernel
theorem d_Play_liarsChain_28 : decode b_Play_liarsChain 28 = .ok (.invokevirtual 101, 3) := by decide +kernel
theorem d_Play_liarsChain_31 : decode b_Play_liarsChain 31 = .ok (.ifCond .eq 24, 3) := by decide +kernel
theorem d_Play_liarsChain_34 : decode b_Play_liarsChain 34 = .ok (.iload 4, 2) := by decide +kernel
theorem d_Play_liarsChain_36 : decode b_Play_liarsChain 36 = .ok (.iload_n 2, 1) := by decide +kernel
theorem d_Play_liarsChain_37 : decode b_Play_liarsChain 37 = .ok (.if_icmp .eq 18, 3) := by decide +kernel
theorem d_Play_liarsChain_40 : decode b_Play_liarsChain 40 = .ok (.iload_n 3, 1) := by decide +kernel
theorem d_Play_liarsChain_41 : decode b_Play_liarsChain 41 = .ok (.invokestatic 104, 3) := by decide +kernel
theorem d_Play_liarsChain_44 : decode b_Play_liarsChain 44 = .ok (.iload_n 1, 1) := by decide +kernel
theorem d_Play_liarsChain_45 : decode b_Play_liarsChain 45 = .ok (.if_icmp .ge 10, 3) := by decide +kernel
theorem d_Play_liarsChain_48 : decode b_Play_liarsChain 48 = .ok (.iload_n 3, 1) := by decide +kernel
theorem d_Play_liarsChain_49 : decode b_Play_liarsChain 49 = .ok (.iload 4, 2) := by decide +kernel
theorem d_Play_liarsChain_51 : decode b_Play_liarsChain 51 = .ok (.invokestatic 98, 3) := by decide +kernel
theorem d_Play_liarsChain_54 : decode b_Play_liarsChain 54 = .ok (.istore_n 3, 1) := by decide +kernel
theorem d_Play_liarsChain_55 : decode b_Play_liarsChain 55 = .ok (.iinc 4 1, 3) := by decide +kernel
theorem d_Play_liarsChain_58 : decode b_Play_liarsChain 58 = .ok (.goto (-42), 3) := by decide +kernel
theorem d_Play_liarsChain_61 : decode b_Play_liarsChain 61 = .ok (.iload_n 3, 1) := by decide +kernel
theorem d_Play_liarsChain_62 : decode b_Play_liarsChain 62 = .ok (.ireturn, 1) := by decide +kernel
theorem d_Route_traded_0 : decode b_Route_traded 0 = .ok (.iload_n 0, 1) := by decide +kernel
theorem d_Route_traded_1 : decode b_Route_traded 1 = .ok (.invokestatic 9, 3) := by decide +kernel
theorem d_Route_traded_4 : decode b_Route_traded 4 = .ok (.iload_n 0, 1) := by decide +kernel
theorem d_Route_traded_5 : decode b_Route_traded 5 = .ok (.invokestatic 15, 3) := by decide +kernel
theorem d_Route_traded_8 : decode b_Route_traded 8 = .ok (.iload_n 1, 1) := by decide +kernel
theorem d_Route_traded_9 : decode b_Route_traded 9 = .ok (.iload_n 2, 1) := by decide +kernel
theorem d_Route_traded_10 : decode b_Route_traded 10 = .ok (.invokestatic 18, 3) := by decide +kernel
theorem d_Route_traded_13 : decode b_Route_traded 13 = .ok (.iload_n 0, 1) := by decide +kernel
theorem d_Route_traded_14 : decode b_Route_traded 14 = .ok (.invokestatic 22, 3) := by decide +kernel
theorem d_Route_traded_17 : decode b_Route_traded 17 = .ok (.iload_n 1, 1) := by decide +kernel
theorem d_Route_traded_18 : decode b_Route_traded 18 = .ok (.iload_n 2, 1) := by decide +kernel
theorem d_Route_traded_19 : decode b_Route_traded 19 = .ok (.invokestatic 18, 3) := by decide +kernel
theorem d_Route_traded_22 : decode b_Route_traded 22 = .ok (.invokestatic 25, 3) := by decide +kernel
theorem d_Route_traded_25 : decode b_Route_traded 25 = .ok (.ireturn, 1) := by decide +kernel
theorem d_Chain_traded_0 : decode b_Chain_traded 0 = .ok (.iconst 0, 1) := by decide +kernel
theorem d_Chain_traded_1 : decode b_Chain_traded 1 = .ok (.istore_n 3, 1) := by decide +kernel
theorem d_Chain_traded_2 : decode b_Chain_traded 2 = .ok (.iconst 0, 1) := by decide +kernel
theorem d_Chain_traded_3 : decode b_Chain_traded 3 = .ok (.istore 4, 2) := by decide +kernel
theorem d_Chain_traded_5 : decode b_Chain_traded 5 = .ok (.iload 4, 2) := by decide +kernel
theorem d_Chain_traded_7 : decode b_Chain_traded 7 = .ok (.iload_n 0, 1) := by decide +kernel
theorem d_Chain_traded_8 : decode b_Chain_traded 8 = .ok (.invokestatic 9, 3) := by decide +kernel
theorem d_Chain_traded_11 : decode b_Chain_traded 11 = .ok (.if_icmp .ge 25, 3) := by decide +kernel
theorem d_Chain_traded_14 : decode b_Chain_traded 14 = .ok (.iload_n 3, 1) := by decide +kernel
theorem d_Chain_traded_15 : decode b_Chain_traded 15 = .ok (.iload_n 0, 1) := by decide +kernel
theorem d_Chain_traded_16 : decode b_Chain_traded 16 = .ok (.iload 4, 2) := by decide +kernel
theorem d_Chain_traded_18 : decode b_Chain_traded 18 = .ok (.invokestatic 15, 3) := by decide +kernel
theorem d_Chain_traded_21 : decode b_Chain_traded 21 = .ok (.iload_n 1, 1) := by decide +kernel
theorem d_Chain_traded_22 : decode b_Chain_traded 22 = .ok (.iload_n 2, 1) := by decide +kernel
theorem d_Chain_traded_23 : decode b_Chain_traded 23 = .ok (.invokestatic 22, 3) := by decide +kernel
theorem d_Chain_traded_26 : decode b_Chain_traded 26 = .ok (.invokestatic 26, 3) := by decide +kernel
theorem d_Chain_traded_29 : decode b_Chain_traded 29 = .ok (.istore_n 3, 1) := by decide +kernel
theorem d_Chain_traded_30 : decode b_Chain_traded 30 = .ok (.iinc 4 1, 3) := by decide +kernel
theorem d_Chain_traded_33 : decode b_Chain_traded 33 = .ok (.goto (-28), 3) := by decide +kernel
theorem d_Chain_traded_36 : decode b_Chain_traded 36 = .ok (.iload_n 3, 1) := by decide +kernel
theorem d_Chain_traded_37 : decode b_Chain_traded 37 = .ok (.ireturn, 1) := by decide +kernel
theorem d_Play_swap_0 : decode b_Play_swap 0 = .ok (.aload_n 0, 1) := by decide +kernel
theorem d_Play_swap_1 : decode b_Play_swap 1 = .ok (.getfield 9, 3) := by decide +kernel
theorem d_Play_swap_4 : decode b_Play_swap 4 = .ok (.iconst 0, 1) := by decide +kernel
theorem d_Play_swap_5 : decode b_Play_swap 5 = .ok (.aload_n 0, 1) := by decide +kernel
theorem d_Play_swap_6 : decode b_Play_swap 6 = .ok (.getfield 9, 3) := by decide +kernel
theorem d_Play_swap_9 : decode b_Play_swap 9 = .ok (.iconst 0, 1) := by decide +kernel
theorem d_Play_swap_10 : decode b_Play_swap 10 = .ok (.iaload, 1) := by decide +kernel
theorem d_Play_swap_11 : decode b_Play_swap 11 = .ok (.iload_n 1, 1) := by decide +kernel
theorem d_Play_swap_12 : decode b_Play_swap 12 = .ok (.iload_n 2, 1) := by decide +kernel
theorem d_Play_swap_13 : decode b_Play_swap 13 = .ok (.invokestatic 88, 3) := by decide +kernel
theorem d_Play_swap_16 : decode b_Play_swap 16 = .ok (.iastore, 1) := by decide +kernel
theorem d_Play_swap_17 : decode b_Play_swap 17 = .ok (.aload_n 0, 1) := by decide +kernel
theorem d_Play_swap_18 : decode b_Play_swap 18 = .ok (.getfield 40, 3) := by decide +kernel
theorem d_Play_swap_21 : decode b_Play_swap 21 = .ok (.iload_n 1, 1) := by decide +kernel
theorem d_Play_swap_22 : decode b_Play_swap 22 = .ok (.ishr, 1) := by decide +kernel
theorem d_Play_swap_23 : decode b_Play_swap 23 = .ok (.aload_n 0, 1) := by decide +kernel
theorem d_Play_swap_24 : decode b_Play_swap 24 = .ok (.getfield 40, 3) := by decide +kernel
theorem d_Play_swap_27 : decode b_Play_swap 27 = .ok (.iload_n 2, 1) := by decide +kernel
theorem d_Play_swap_28 : decode b_Play_swap 28 = .ok (.ishr, 1) := by decide +kernel
theorem d_Play_swap_29 : decode b_Play_swap 29 = .ok (.ixor, 1) := by decide +kernel
theorem d_Play_swap_30 : decode b_Play_swap 30 = .ok (.iconst 1, 1) := by decide +kernel
theorem d_Play_swap_31 : decode b_Play_swap 31 = .ok (.iand, 1) := by decide +kernel
theorem d_Play_swap_32 : decode b_Play_swap 32 = .ok (.istore_n 3, 1) := by decide +kernel
theorem d_Play_swap_33 : decode b_Play_swap 33 = .ok (.aload_n 0, 1) := by decide +kernel
theorem d_Play_swap_34 : decode b_Play_swap 34 = .ok (.dup, 1) := by decide +kernel
theorem d_Play_swap_35 : decode b_Play_swap 35 = .ok (.getfield 40, 3) := by decide +kernel
theorem d_Play_swap_38 : decode b_Play_swap 38 = .ok (.iload_n 3, 1) := by decide +kernel
theorem d_Play_swap_39 : decode b_Play_swap 39 = .ok (.iload_n 1, 1) := by decide +kernel
theorem d_Play_swap_40 : decode b_Play_swap 40 = .ok (.ishl, 1) := by decide +kernel
theorem d_Play_swap_41 : decode b_Play_swap 41 = .ok (.iload_n 3, 1) := by decide +kernel
theorem d_Play_swap_42 : decode b_Play_swap 42 = .ok (.iload_n 2, 1) := by decide +kernel
theorem d_Play_swap_43 : decode b_Play_swap 43 = .ok (.ishl, 1) := by decide +kernel
theorem d_Play_swap_44 : decode b_Play_swap 44 = .ok (.ior, 1) := by decide +kernel
theorem d_Play_swap_45 : decode b_Play_swap 45 = .ok (.ixor, 1) := by decide +kernel
theorem d_Play_swap_46 : decode b_Play_swap 46 = .ok (.putfield 40, 3) := by decide +kernel
theorem d_Play_swap_49 : decode b_Play_swap 49 = .ok (.iconst 0, 1) := by decide +kernel
theorem d_Play_swap_50 : decode b_Play_swap 50 = .ok (.istore 4, 2) := by decide +kernel
theorem d_Play_swap_52 : decode b_Play_swap 52 = .ok (.iload 4, 2) := by decide +kernel
theorem d_Play_swap_54 : decode b_Play_swap 54 = .ok (.aload_n 0, 1) := by decide +kernel
theorem d_Play_swap_55 : decode b_Play_swap 55 = .ok (.getfield 43, 3) := by decide +kernel
theorem d_Play_swap_58 : decode b_Play_swap 58 = .ok (.if_icmp .ge 47, 3) := by decide +kernel
theorem d_Play_swap_61 : decode b_Play_swap 61 = .ok (.aload_n 0, 1) := by decide +kernel
theorem d_Play_swap_62 : decode b_Play_swap 62 = .ok (.getfield 15, 3) := by decide +kernel
theorem d_Play_swap_65 : decode b_Play_swap 65 = .ok (.iload 4, 2) := by decide +kernel
theorem d_Play_swap_67 : decode b_Play_swap 67 = .ok (.aload_n 0, 1) := by decide +kernel
theorem d_Play_swap_68 : decode b_Play_swap 68 = .ok (.getfield 15, 3) := by decide +kernel
theorem d_Play_swap_71 : decode b_Play_swap 71 = .ok (.iload 4, 2) := by decide +kernel
theorem d_Play_swap_73 : decode b_Play_swap 73 = .ok (.iaload, 1) := by decide +kernel
theorem d_Play_swap_74 : decode b_Play_swap 74 = .ok (.iload_n 1, 1) := by decide +kernel
theorem d_Play_swap_75 : decode b_Play_swap 75 = .ok (.iload_n 2, 1) := by decide +kernel
theorem d_Play_swap_76 : decode b_Play_swap 76 = .ok (.invokestatic 92, 3) := by decide +kernel
theorem d_Play_swap_79 : decode b_Play_swap 79 = .ok (.iastore, 1) := by decide +kernel
theorem d_Play_swap_80 : decode b_Play_swap 80 = .ok (.aload_n 0, 1) := by decide +kernel
theorem d_Play_swap_81 : decode b_Play_swap 81 = .ok (.getfield 21, 3) := by decide +kernel
theorem d_Play_swap_84 : decode b_Play_swap 84 = .ok (.iload 4, 2) := by decide +kernel
theorem d_Play_swap_86 : decode b_Play_swap 86 = .ok (.aload_n 0, 1) := by decide +kernel
theorem d_Play_swap_87 : decode b_Play_swap 87 = .ok (.getfield 21, 3) := by decide +kernel
theorem d_Play_swap_90 : decode b_Play_swap 90 = .ok (.iload 4, 2) := by decide +kernel
theorem d_Play_swap_92 : decode b_Play_swap 92 = .ok (.iaload, 1) := by decide +kernel
theorem d_Play_swap_93 : decode b_Play_swap 93 = .ok (.iload_n 1, 1) := by decide +kernel
theorem d_Play_swap_94 : decode b_Play_swap 94 = .ok (.iload_n 2, 1) := by decide +kernel
theorem d_Play_swap_95 : decode b_Play_swap 95 = .ok (.invokestatic 97, 3) := by decide +kernel
theorem d_Play_swap_98 : decode b_Play_swap 98 = .ok (.iastore, 1) := by decide +kernel
theorem d_Play_swap_99 : decode b_Play_swap 99 = .ok (.iinc 4 1, 3) := by decide +kernel
theorem d_Play_swap_102 : decode b_Play_swap 102 = .ok (.goto (-50), 3) := by decide +kernel
theorem d_Play_swap_105 : decode b_Play_swap 105 = .ok (.iconst 0, 1) := by decide +kernel
theorem d_Play_swap_106 : decode b_Play_swap 106 = .ok (.istore 4, 2) := by decide +kernel
theorem d_Play_swap_108 : decode b_Play_swap 108 = .ok (.iload 4, 2) := by decide +kernel
theorem d_Play_swap_110 : decode b_Play_swap 110 = .ok (.aload_n 0, 1) := by decide +kernel
theorem d_Play_swap_111 : decode b_Play_swap 111 = .ok (.getfield 46, 3) := by decide +kernel
theorem d_Play_swap_114 : decode b_Play_swap 114 = .ok (.if_icmp .ge 28, 3) := by decide +kernel
theorem d_Play_swap_117 : decode b_Play_swap 117 = .ok (.aload_n 0, 1) := by decide +kernel
theorem d_Play_swap_118 : decode b_Play_swap 118 = .ok (.getfield 24, 3) := by decide +kernel
theorem d_Play_swap_121 : decode b_Play_swap 121 = .ok (.iload 4, 2) := by decide +kernel
theorem d_Play_swap_123 : decode b_Play_swap 123 = .ok (.aload_n 0, 1) := by decide +kernel
theorem d_Play_swap_124 : decode b_Play_swap 124 = .ok (.getfield 24, 3) := by decide +kernel
theorem d_Play_swap_127 : decode b_Play_swap 127 = .ok (.iload 4, 2) := by decide +kernel
theorem d_Play_swap_129 : decode b_Play_swap 129 = .ok (.iaload, 1) := by decide +kernel
theorem d_Play_swap_130 : decode b_Play_swap 130 = .ok (.iload_n 1, 1) := by decide +kernel
theorem d_Play_swap_131 : decode b_Play_swap 131 = .ok (.iload_n 2, 1) := by decide +kernel
theorem d_Play_swap_132 : decode b_Play_swap 132 = .ok (.invokestatic 92, 3) := by decide +kernel
theorem d_Play_swap_135 : decode b_Play_swap 135 = .ok (.iastore, 1) := by decide +kernel
theorem d_Play_swap_136 : decode b_Play_swap 136 = .ok (.iinc 4 1, 3) := by decide +kernel
theorem d_Play_swap_139 : decode b_Play_swap 139 = .ok (.goto (-31), 3) := by decide +kernel
theorem d_Play_swap_142 : decode b_Play_swap 142 = .ok (.iconst 0, 1) := by decide +kernel
theorem d_Play_swap_143 : decode b_Play_swap 143 = .ok (.istore 4, 2) := by decide +kernel
theorem d_Play_swap_145 : decode b_Play_swap 145 = .ok (.iload 4, 2) := by decide +kernel
theorem d_Play_swap_147 : decode b_Play_swap 147 = .ok (.aload_n 0, 1) := by decide +kernel
theorem d_Play_swap_148 : decode b_Play_swap 148 = .ok (.getfield 49, 3) := by decide +kernel
theorem d_Play_swap_151 : decode b_Play_swap 151 = .ok (.if_icmp .ge 28, 3) := by decide +kernel
theorem d_Play_swap_154 : decode b_Play_swap 154 = .ok (.aload_n 0, 1) := by decide +kernel
theorem d_Play_swap_155 : decode b_Play_swap 155 = .ok (.getfield 27, 3) := by decide +kernel
theorem d_Play_swap_158 : decode b_Play_swap 158 = .ok (.iload 4, 2) := by decide +kernel
theorem d_Play_swap_160 : decode b_Play_swap 160 = .ok (.aload_n 0, 1) := by decide +kernel
theorem d_Play_swap_161 : decode b_Play_swap 161 = .ok (.getfield 27, 3) := by decide +kernel
theorem d_Play_swap_164 : decode b_Play_swap 164 = .ok (.iload 4, 2) := by decide +kernel
theorem d_Play_swap_166 : decode b_Play_swap 166 = .ok (.iaload, 1) := by decide +kernel
theorem d_Play_swap_167 : decode b_Play_swap 167 = .ok (.iload_n 1, 1) := by decide +kernel
theorem d_Play_swap_168 : decode b_Play_swap 168 = .ok (.iload_n 2, 1) := by decide +kernel
theorem d_Play_swap_169 : decode b_Play_swap 169 = .ok (.invokestatic 92, 3) := by decide +kernel
theorem d_Play_swap_172 : decode b_Play_swap 172 = .ok (.iastore, 1) := by decide +kernel
theorem d_Play_swap_173 : decode b_Play_swap 173 = .ok (.iinc 4 1, 3) := by decide +kernel
theorem d_Play_swap_176 : decode b_Play_swap 176 = .ok (.goto (-31), 3) := by decide +kernel
theorem d_Play_swap_179 : decode b_Play_swap 179 = .ok (.return_, 1) := by decide +kernel
theorem d_Chain_pack_0 : decode b_Chain_pack 0 = .ok (.lconst 0, 1) := by decide +kernel
theorem d_Chain_pack_1 : decode b_Chain_pack 1 = .ok (.lstore_n 2, 1) := by decide +kernel
theorem d_Chain_pack_2 : decode b_Chain_pack 2 = .ok (.iload_n 0, 1) := by decide +kernel
theorem d_Chain_pack_3 : decode b_Chain_pack 3 = .ok (.invokestatic 9, 3) := by decide +kernel
theorem d_Chain_pack_6 : decode b_Chain_pack 6 = .ok (.iconst 1, 1) := by decide +kernel
theorem d_Chain_pack_7 : decode b_Chain_pack 7 = .ok (.isub, 1) := by decide +kernel
theorem d_Chain_pack_8 : decode b_Chain_pack 8 = .ok (.istore 4, 2) := by decide +kernel
theorem d_Chain_pack_10 : decode b_Chain_pack 10 = .ok (.iload 4, 2) := by decide +kernel
theorem d_Chain_pack_12 : decode b_Chain_pack 12 = .ok (.ifCond .lt 25, 3) := by decide +kernel
theorem d_Chain_pack_15 : decode b_Chain_pack 15 = .ok (.lload_n 2, 1) := by decide +kernel
theorem d_Chain_pack_16 : decode b_Chain_pack 16 = .ok (.ldc2_w 34, 3) := by decide +kernel
theorem d_Chain_pack_19 : decode b_Chain_pack 19 = .ok (.lmul, 1) := by decide +kernel
theorem d_Chain_pack_20 : decode b_Chain_pack 20 = .ok (.iload_n 0, 1) := by decide +kernel
theorem d_Chain_pack_21 : decode b_Chain_pack 21 = .ok (.iload 4, 2) := by decide +kernel
theorem d_Chain_pack_23 : decode b_Chain_pack 23 = .ok (.invokestatic 15, 3) := by decide +kernel
theorem d_Chain_pack_26 : decode b_Chain_pack 26 = .ok (.i2l, 1) := by decide +kernel
theorem d_Chain_pack_27 : decode b_Chain_pack 27 = .ok (.ladd, 1) := by decide +kernel
theorem d_Chain_pack_28 : decode b_Chain_pack 28 = .ok (.lconst 1, 1) := by decide +kernel
theorem d_Chain_pack_29 : decode b_Chain_pack 29 = .ok (.ladd, 1) := by decide +kernel
theorem d_Chain_pack_30 : decode b_Chain_pack 30 = .ok (.lstore_n 2, 1) := by decide +kernel
theorem d_Chain_pack_31 : decode b_Chain_pack 31 = .ok (.iinc 4 (-1), 3) := by decide +kernel
theorem d_Chain_pack_34 : decode b_Chain_pack 34 = .ok (.goto (-24), 3) := by decide +kernel
theorem d_Chain_pack_37 : decode b_Chain_pack 37 = .ok (.lload_n 2, 1) := by decide +kernel
theorem d_Chain_pack_38 : decode b_Chain_pack 38 = .ok (.ldc2_w 36, 3) := by decide +kernel
theorem d_Chain_pack_41 : decode b_Chain_pack 41 = .ok (.lmul, 1) := by decide +kernel
theorem d_Chain_pack_42 : decode b_Chain_pack 42 = .ok (.iload_n 1, 1) := by decide +kernel
theorem d_Chain_pack_43 : decode b_Chain_pack 43 = .ok (.i2l, 1) := by decide +kernel
theorem d_Chain_pack_44 : decode b_Chain_pack 44 = .ok (.ladd, 1) := by decide +kernel
theorem d_Chain_pack_45 : decode b_Chain_pack 45 = .ok (.lreturn, 1) := by decide +kernel
theorem d_Chain_unpack_0 : decode b_Chain_unpack 0 = .ok (.lload_n 0, 1) := by decide +kernel
theorem d_Chain_unpack_1 : decode b_Chain_unpack 1 = .ok (.lconst 0, 1) := by decide +kernel
theorem d_Chain_unpack_2 : decode b_Chain_unpack 2 = .ok (.lcmp, 1) := by decide +kernel
theorem d_Chain_unpack_3 : decode b_Chain_unpack 3 = .ok (.ifCond .ge 5, 3) := by decide +kernel
theorem d_Chain_unpack_6 : decode b_Chain_unpack 6 = .ok (.iconst (-1), 1) := by decide +kernel
theorem d_Chain_unpack_7 : decode b_Chain_unpack 7 = .ok (.ireturn, 1) := by decide +kernel
theorem d_Chain_unpack_8 : decode b_Chain_unpack 8 = .ok (.iconst 0, 1) := by decide +kernel
theorem d_Chain_unpack_9 : decode b_Chain_unpack 9 = .ok (.istore_n 2, 1) := by decide +kernel
theorem d_Chain_unpack_10 : decode b_Chain_unpack 10 = .ok (.lload_n 0, 1) := by decide +kernel
theorem d_Chain_unpack_11 : decode b_Chain_unpack 11 = .ok (.ldc2_w 36, 3) := by decide +kernel
theorem d_Chain_unpack_14 : decode b_Chain_unpack 14 = .ok (.ldiv, 1) := by decide +kernel
theorem d_Chain_unpack_15 : decode b_Chain_unpack 15 = .ok (.lstore_n 3, 1) := by decide +kernel
theorem d_Chain_unpack_16 : decode b_Chain_unpack 16 = .ok (.iconst 0, 1) := by decide +kernel
theorem d_Chain_unpack_17 : decode b_Chain_unpack 17 = .ok (.istore 5, 2) := by decide +kernel
theorem d_Chain_unpack_19 : decode b_Chain_unpack 19 = .ok (.iload 5, 2) := by decide +kernel
theorem d_Chain_unpack_21 : decode b_Chain_unpack 21 = .ok (.bipush 8, 2) := by decide +kernel
theorem d_Chain_unpack_23 : decode b_Chain_unpack 23 = .ok (.if_icmp .ge 56, 3) := by decide +kernel
theorem d_Chain_unpack_26 : decode b_Chain_unpack 26 = .ok (.lload_n 3, 1) := by decide +kernel
theorem d_Chain_unpack_27 : decode b_Chain_unpack 27 = .ok (.lconst 0, 1) := by decide +kernel
theorem d_Chain_unpack_28 : decode b_Chain_unpack 28 = .ok (.lcmp, 1) := by decide +kernel
theorem d_Chain_unpack_29 : decode b_Chain_unpack 29 = .ok (.ifCond .le 50, 3) := by decide +kernel
theorem d_Chain_unpack_32 : decode b_Chain_unpack 32 = .ok (.lload_n 3, 1) := by decide +kernel
theorem d_Chain_unpack_33 : decode b_Chain_unpack 33 = .ok (.ldc2_w 34, 3) := by decide +kernel
theorem d_Chain_unpack_36 : decode b_Chain_unpack 36 = .ok (.lrem, 1) := by decide +kernel
theorem d_Chain_unpack_37 : decode b_Chain_unpack 37 = .ok (.l2i, 1) := by decide +kernel
theorem d_Chain_unpack_38 : decode b_Chain_unpack 38 = .ok (.istore 6, 2) := by decide +kernel
theorem d_Chain_unpack_40 : decode b_Chain_unpack 40 = .ok (.iload 6, 2) := by decide +kernel
theorem d_Chain_unpack_42 : decode b_Chain_unpack 42 = .ok (.ifCond .eq 14, 3) := by decide +kernel
theorem d_Chain_unpack_45 : decode b_Chain_unpack 45 = .ok (.iload_n 2, 1) := by decide +kernel
theorem d_Chain_unpack_46 : decode b_Chain_unpack 46 = .ok (.iload 6, 2) := by decide +kernel
theorem d_Chain_unpack_48 : decode b_Chain_unpack 48 = .ok (.iconst 1, 1) := by decide +kernel
theorem d_Chain_unpack_49 : decode b_Chain_unpack 49 = .ok (.isub, 1) := by decide +kernel
theorem d_Chain_unpack_50 : decode b_Chain_unpack 50 = .ok (.invokestatic 30, 3) := by decide +kernel
theorem d_Chain_unpack_53 : decode b_Chain_unpack 53 = .ok (.ifCond .eq 5, 3) := by decide +kernel
theorem d_Chain_unpack_56 : decode b_Chain_unpack 56 = .ok (.iconst (-1), 1) := by decide +kernel
theorem d_Chain_unpack_57 : decode b_Chain_unpack 57 = .ok (.ireturn, 1) := by decide +kernel
theorem d_Chain_unpack_58 : decode b_Chain_unpack 58 = .ok (.iload_n 2, 1) := by decide +kernel
theorem d_Chain_unpack_59 : decode b_Chain_unpack 59 = .ok (.iload 6, 2) := by decide +kernel
theorem d_Chain_unpack_61 : decode b_Chain_unpack 61 = .ok (.iconst 1, 1) := by decide +kernel
theorem d_Chain_unpack_62 : decode b_Chain_unpack 62 = .ok (.isub, 1) := by decide +kernel
theorem d_Chain_unpack_63 : decode b_Chain_unpack 63 = .ok (.invokestatic 26, 3) := by decide +kernel
theorem d_Chain_unpack_66 : decode b_Chain_unpack 66 = .ok (.istore_n 2, 1) := by decide +kernel
theorem d_Chain_unpack_67 : decode b_Chain_unpack 67 = .ok (.lload_n 3, 1) := by decide +kernel
theorem d_Chain_unpack_68 : decode b_Chain_unpack 68 = .ok (.ldc2_w 34, 3) := by decide +kernel
theorem d_Chain_unpack_71 : decode b_Chain_unpack 71 = .ok (.ldiv, 1) := by decide +kernel
theorem d_Chain_unpack_72 : decode b_Chain_unpack 72 = .ok (.lstore_n 3, 1) := by decide +kernel
theorem d_Chain_unpack_73 : decode b_Chain_unpack 73 = .ok (.iinc 5 1, 3) := by decide +kernel
theorem d_Chain_unpack_76 : decode b_Chain_unpack 76 = .ok (.goto (-57), 3) := by decide +kernel
theorem d_Chain_unpack_79 : decode b_Chain_unpack 79 = .ok (.lload_n 3, 1) := by decide +kernel
theorem d_Chain_unpack_80 : decode b_Chain_unpack 80 = .ok (.lconst 0, 1) := by decide +kernel
theorem d_Chain_unpack_81 : decode b_Chain_unpack 81 = .ok (.lcmp, 1) := by decide +kernel
theorem d_Chain_unpack_82 : decode b_Chain_unpack 82 = .ok (.ifCond .gt 7, 3) := by decide +kernel
theorem d_Chain_unpack_85 : decode b_Chain_unpack 85 = .ok (.iload_n 2, 1) := by decide +kernel
theorem d_Chain_unpack_86 : decode b_Chain_unpack 86 = .ok (.ifCond .ne 7, 3) := by decide +kernel
theorem d_Chain_unpack_89 : decode b_Chain_unpack 89 = .ok (.iconst (-1), 1) := by decide +kernel
theorem d_Chain_unpack_90 : decode b_Chain_unpack 90 = .ok (.goto 4, 3) := by decide +kernel
theorem d_Chain_unpack_93 : decode b_Chain_unpack 93 = .ok (.iload_n 2, 1) := by decide +kernel
theorem d_Chain_unpack_94 : decode b_Chain_unpack 94 = .ok (.ireturn, 1) := by decide +kernel
theorem d_Play_idlePlans_0 : decode b_Play_idlePlans 0 = .ok (.iconst 0, 1) := by decide +kernel
theorem d_Play_idlePlans_1 : decode b_Play_idlePlans 1 = .ok (.istore_n 1, 1) := by decide +kernel
theorem d_Play_idlePlans_2 : decode b_Play_idlePlans 2 = .ok (.iconst 0, 1) := by decide +kernel
theorem d_Play_idlePlans_3 : decode b_Play_idlePlans 3 = .ok (.istore_n 2, 1) := by decide +kernel
theorem d_Play_idlePlans_4 : decode b_Play_idlePlans 4 = .ok (.iload_n 2, 1) := by decide +kernel
theorem d_Play_idlePlans_5 : decode b_Play_idlePlans 5 = .ok (.aload_n 0, 1) := by decide +kernel
theorem d_Play_idlePlans_6 : decode b_Play_idlePlans 6 = .ok (.getfield 43, 3) := by decide +kernel
theorem d_Play_idlePlans_9 : decode b_Play_idlePlans 9 = .ok (.if_icmp .ge 59, 3) := by decide +kernel
theorem d_Play_idlePlans_12 : decode b_Play_idlePlans 12 = .ok (.aload_n 0, 1) := by decide +kernel
theorem d_Play_idlePlans_13 : decode b_Play_idlePlans 13 = .ok (.getfield 15, 3) := by decide +kernel
theorem d_Play_idlePlans_16 : decode b_Play_idlePlans 16 = .ok (.iload_n 2, 1) := by decide +kernel
theorem d_Play_idlePlans_17 : decode b_Play_idlePlans 17 = .ok (.iaload, 1) := by decide +kernel
theorem d_Play_idlePlans_18 : decode b_Play_idlePlans 18 = .ok (.invokestatic 120, 3) := by decide +kernel
theorem d_Play_idlePlans_21 : decode b_Play_idlePlans 21 = .ok (.aload_n 0, 1) := by decide +kernel
theorem d_Play_idlePlans_22 : decode b_Play_idlePlans 22 = .ok (.getfield 9, 3) := by decide +kernel
theorem d_Play_idlePlans_25 : decode b_Play_idlePlans 25 = .ok (.iconst 2, 1) := by decide +kernel
theorem d_Play_idlePlans_26 : decode b_Play_idlePlans 26 = .ok (.iaload, 1) := by decide +kernel
theorem d_Play_idlePlans_27 : decode b_Play_idlePlans 27 = .ok (.if_icmp .le 7, 3) := by decide +kernel
theorem d_Play_idlePlans_30 : decode b_Play_idlePlans 30 = .ok (.iconst 1, 1) := by decide +kernel
theorem d_Play_idlePlans_31 : decode b_Play_idlePlans 31 = .ok (.goto 4, 3) := by decide +kernel
theorem d_Play_idlePlans_34 : decode b_Play_idlePlans 34 = .ok (.iconst 0, 1) := by decide +kernel
theorem d_Play_idlePlans_35 : decode b_Play_idlePlans 35 = .ok (.istore_n 3, 1) := by decide +kernel
theorem d_Play_idlePlans_36 : decode b_Play_idlePlans 36 = .ok (.iload_n 3, 1) := by decide +kernel
theorem d_Play_idlePlans_37 : decode b_Play_idlePlans 37 = .ok (.ifCond .ne 19, 3) := by decide +kernel
theorem d_Play_idlePlans_40 : decode b_Play_idlePlans 40 = .ok (.aload_n 0, 1) := by decide +kernel
theorem d_Play_idlePlans_41 : decode b_Play_idlePlans 41 = .ok (.aload_n 0, 1) := by decide +kernel
theorem d_Play_idlePlans_42 : decode b_Play_idlePlans 42 = .ok (.getfield 15, 3) := by decide +kernel
theorem d_Play_idlePlans_45 : decode b_Play_idlePlans 45 = .ok (.iload_n 2, 1) := by decide +kernel
theorem d_Play_idlePlans_46 : decode b_Play_idlePlans 46 = .ok (.iaload, 1) := by decide +kernel
theorem d_Play_idlePlans_47 : decode b_Play_idlePlans 47 = .ok (.invokestatic 114, 3) := by decide +kernel
theorem d_Play_idlePlans_50 : decode b_Play_idlePlans 50 = .ok (.invokevirtual 101, 3) := by decide +kernel
theorem d_Play_idlePlans_53 : decode b_Play_idlePlans 53 = .ok (.ifCond .ne 9, 3) := by decide +kernel
theorem d_Play_idlePlans_56 : decode b_Play_idlePlans 56 = .ok (.iload_n 1, 1) := by decide +kernel
theorem d_Play_idlePlans_57 : decode b_Play_idlePlans 57 = .ok (.iconst 1, 1) := by decide +kernel
theorem d_Play_idlePlans_58 : decode b_Play_idlePlans 58 = .ok (.iload_n 2, 1) := by decide +kernel
theorem d_Play_idlePlans_59 : decode b_Play_idlePlans 59 = .ok (.ishl, 1) := by decide +kernel
theorem d_Play_idlePlans_60 : decode b_Play_idlePlans 60 = .ok (.ior, 1) := by decide +kernel
theorem d_Play_idlePlans_61 : decode b_Play_idlePlans 61 = .ok (.istore_n 1, 1) := by decide +kernel
theorem d_Play_idlePlans_62 : decode b_Play_idlePlans 62 = .ok (.iinc 2 1, 3) := by decide +kernel
theorem d_Play_idlePlans_65 : decode b_Play_idlePlans 65 = .ok (.goto (-61), 3) := by decide +kernel
theorem d_Play_idlePlans_68 : decode b_Play_idlePlans 68 = .ok (.iload_n 1, 1) := by decide +kernel
theorem d_Play_idlePlans_69 : decode b_Play_idlePlans 69 = .ok (.ireturn, 1) := by decide +kernel
theorem d_Play_endsOf_0 : decode b_Play_endsOf 0 = .ok (.iconst 1, 1) := by decide +kernel
theorem d_Play_endsOf_1 : decode b_Play_endsOf 1 = .ok (.iload_n 0, 1) := by decide +kernel
theorem d_Play_endsOf_2 : decode b_Play_endsOf 2 = .ok (.invokestatic 114, 3) := by decide +kernel
theorem d_Play_endsOf_5 : decode b_Play_endsOf 5 = .ok (.ishl, 1) := by decide +kernel
theorem d_Play_endsOf_6 : decode b_Play_endsOf 6 = .ok (.iconst 1, 1) := by decide +kernel
theorem d_Play_endsOf_7 : decode b_Play_endsOf 7 = .ok (.iload_n 0, 1) := by decide +kernel
theorem d_Play_endsOf_8 : decode b_Play_endsOf 8 = .ok (.invokestatic 117, 3) := by decide +kernel
theorem d_Play_endsOf_11 : decode b_Play_endsOf 11 = .ok (.ishl, 1) := by decide +kernel
theorem d_Play_endsOf_12 : decode b_Play_endsOf 12 = .ok (.ior, 1) := by decide +kernel
theorem d_Play_endsOf_13 : decode b_Play_endsOf 13 = .ok (.ireturn, 1) := by decide +kernel
theorem d_Play_soundParties_0 : decode b_Play_soundParties 0 = .ok (.iconst 0, 1) := by decide +kernel
theorem d_Play_soundParties_1 : decode b_Play_soundParties 1 = .ok (.istore_n 1, 1) := by decide +kernel
theorem d_Play_soundParties_2 : decode b_Play_soundParties 2 = .ok (.iconst 0, 1) := by decide +kernel
theorem d_Play_soundParties_3 : decode b_Play_soundParties 3 = .ok (.istore_n 2, 1) := by decide +kernel
theorem d_Play_soundParties_4 : decode b_Play_soundParties 4 = .ok (.iload_n 2, 1) := by decide +kernel
theorem d_Play_soundParties_5 : decode b_Play_soundParties 5 = .ok (.aload_n 0, 1) := by decide +kernel
theorem d_Play_soundParties_6 : decode b_Play_soundParties 6 = .ok (.getfield 46, 3) := by decide +kernel
theorem d_Play_soundParties_9 : decode b_Play_soundParties 9 = .ok (.if_icmp .ge 21, 3) := by decide +kernel
theorem d_Play_soundParties_12 : decode b_Play_soundParties 12 = .ok (.iload_n 1, 1) := by decide +kernel
theorem d_Play_soundParties_13 : decode b_Play_soundParties 13 = .ok (.aload_n 0, 1) := by decide +kernel
theorem d_Play_soundParties_14 : decode b_Play_soundParties 14 = .ok (.getfield 24, 3) := by decide +kernel
theorem d_Play_soundParties_17 : decode b_Play_soundParties 17 = .ok (.iload_n 2, 1) := by decide +kernel
theorem d_Play_soundParties_18 : decode b_Play_soundParties 18 = .ok (.iaload, 1) := by decide +kernel
theorem d_Play_soundParties_19 : decode b_Play_soundParties 19 = .ok (.invokestatic 107, 3) := by decide +kernel
theorem d_Play_soundParties_22 : decode b_Play_soundParties 22 = .ok (.ior, 1) := by decide +kernel
theorem d_Play_soundParties_23 : decode b_Play_soundParties 23 = .ok (.istore_n 1, 1) := by decide +kernel
theorem d_Play_soundParties_24 : decode b_Play_soundParties 24 = .ok (.iinc 2 1, 3) := by decide +kernel
theorem d_Play_soundParties_27 : decode b_Play_soundParties 27 = .ok (.goto (-23), 3) := by decide +kernel
theorem d_Play_soundParties_30 : decode b_Play_soundParties 30 = .ok (.iconst 0, 1) := by decide +kernel
theorem d_Play_soundParties_31 : decode b_Play_soundParties 31 = .ok (.istore_n 2, 1) := by decide +kernel
theorem d_Play_soundParties_32 : decode b_Play_soundParties 32 = .ok (.iload_n 2, 1) := by decide +kernel
theorem d_Play_soundParties_33 : decode b_Play_soundParties 33 = .ok (.aload_n 0, 1) := by decide +kernel
theorem d_Play_soundParties_34 : decode b_Play_soundParties 34 = .ok (.getfield 49, 3) := by decide +kernel
theorem d_Play_soundParties_37 : decode b_Play_soundParties 37 = .ok (.if_icmp .ge 21, 3) := by decide +kernel
theorem d_Play_soundParties_40 : decode b_Play_soundParties 40 = .ok (.iload_n 1, 1) := by decide +kernel
theorem d_Play_soundParties_41 : decode b_Play_soundParties 41 = .ok (.aload_n 0, 1) := by decide +kernel
theorem d_Play_soundParties_42 : decode b_Play_soundParties 42 = .ok (.getfield 27, 3) := by decide +kernel
theorem d_Play_soundParties_45 : decode b_Play_soundParties 45 = .ok (.iload_n 2, 1) := by decide +kernel
theorem d_Play_soundParties_46 : decode b_Play_soundParties 46 = .ok (.iaload, 1) := by decide +kernel
theorem d_Play_soundParties_47 : decode b_Play_soundParties 47 = .ok (.invokestatic 107, 3) := by decide +kernel
theorem d_Play_soundParties_50 : decode b_Play_soundParties 50 = .ok (.ior, 1) := by decide +kernel
theorem d_Play_soundParties_51 : decode b_Play_soundParties 51 = .ok (.istore_n 1, 1) := by decide +kernel
theorem d_Play_soundParties_52 : decode b_Play_soundParties 52 = .ok (.iinc 2 1, 3) := by decide +kernel
theorem d_Play_soundParties_55 : decode b_Play_soundParties 55 = .ok (.goto (-23), 3) := by decide +kernel
theorem d_Play_soundParties_58 : decode b_Play_soundParties 58 = .ok (.aload_n 0, 1) := by decide +kernel
theorem d_Play_soundParties_59 : decode b_Play_soundParties 59 = .ok (.invokevirtual 110, 3) := by decide +kernel
theorem d_Play_soundParties_62 : decode b_Play_soundParties 62 = .ok (.iload_n 1, 1) := by decide +kernel
theorem d_Play_soundParties_63 : decode b_Play_soundParties 63 = .ok (.iconst (-1), 1) := by decide +kernel
theorem d_Play_soundParties_64 : decode b_Play_soundParties 64 = .ok (.ixor, 1) := by decide +kernel
theorem d_Play_soundParties_65 : decode b_Play_soundParties 65 = .ok (.iand, 1) := by decide +kernel
theorem d_Play_soundParties_66 : decode b_Play_soundParties 66 = .ok (.ireturn, 1) := by decide +kernel
theorem d_Chain_digits_0 : decode b_Chain_digits 0 = .ok (.iconst 0, 1) := by decide +kernel
theorem d_Chain_digits_1 : decode b_Chain_digits 1 = .ok (.istore_n 1, 1) := by decide +kernel
theorem d_Chain_digits_2 : decode b_Chain_digits 2 = .ok (.iconst 0, 1) := by decide +kernel
theorem d_Chain_digits_3 : decode b_Chain_digits 3 = .ok (.istore_n 2, 1) := by decide +kernel
theorem d_Chain_digits_4 : decode b_Chain_digits 4 = .ok (.iload_n 2, 1) := by decide +kernel
theorem d_Chain_digits_5 : decode b_Chain_digits 5 = .ok (.iload_n 0, 1) := by decide +kernel
theorem d_Chain_digits_6 : decode b_Chain_digits 6 = .ok (.invokestatic 9, 3) := by decide +kernel
theorem d_Chain_digits_9 : decode b_Chain_digits 9 = .ok (.if_icmp .ge 22, 3) := by decide +kernel
theorem d_Chain_digits_12 : decode b_Chain_digits 12 = .ok (.iload_n 1, 1) := by decide +kernel
theorem d_Chain_digits_13 : decode b_Chain_digits 13 = .ok (.bipush 10, 2) := by decide +kernel
theorem d_Chain_digits_15 : decode b_Chain_digits 15 = .ok (.imul, 1) := by decide +kernel
theorem d_Chain_digits_16 : decode b_Chain_digits 16 = .ok (.iload_n 0, 1) := by decide +kernel
theorem d_Chain_digits_17 : decode b_Chain_digits 17 = .ok (.iload_n 2, 1) := by decide +kernel
theorem d_Chain_digits_18 : decode b_Chain_digits 18 = .ok (.invokestatic 15, 3) := by decide +kernel
theorem d_Chain_digits_21 : decode b_Chain_digits 21 = .ok (.iadd, 1) := by decide +kernel
theorem d_Chain_digits_22 : decode b_Chain_digits 22 = .ok (.iconst 1, 1) := by decide +kernel
theorem d_Chain_digits_23 : decode b_Chain_digits 23 = .ok (.iadd, 1) := by decide +kernel
theorem d_Chain_digits_24 : decode b_Chain_digits 24 = .ok (.istore_n 1, 1) := by decide +kernel
theorem d_Chain_digits_25 : decode b_Chain_digits 25 = .ok (.iinc 2 1, 3) := by decide +kernel
theorem d_Chain_digits_28 : decode b_Chain_digits 28 = .ok (.goto (-24), 3) := by decide +kernel
theorem d_Chain_digits_31 : decode b_Chain_digits 31 = .ok (.iload_n 1, 1) := by decide +kernel
theorem d_Chain_digits_32 : decode b_Chain_digits 32 = .ok (.ireturn, 1) := by decide +kernel
theorem d_Int_numberOfTrailingZeros_0 : decode b_Int_numberOfTrailingZeros 0 = .ok (.iload_n 0, 1) := by decide +kernel
theorem d_Int_numberOfTrailingZeros_1 : decode b_Int_numberOfTrailingZeros 1 = .ok (.iconst (-1), 1) := by decide +kernel
theorem d_Int_numberOfTrailingZeros_2 : decode b_Int_numberOfTrailingZeros 2 = .ok (.ixor, 1) := by decide +kernel
theorem d_Int_numberOfTrailingZeros_3 : decode b_Int_numberOfTrailingZeros 3 = .ok (.iload_n 0, 1) := by decide +kernel
theorem d_Int_numberOfTrailingZeros_4 : decode b_Int_numberOfTrailingZeros 4 = .ok (.iconst 1, 1) := by decide +kernel
theorem d_Int_numberOfTrailingZeros_5 : decode b_Int_numberOfTrailingZeros 5 = .ok (.isub, 1) := by decide +kernel
theorem d_Int_numberOfTrailingZeros_6 : decode b_Int_numberOfTrailingZeros 6 = .ok (.iand, 1) := by decide +kernel
theorem d_Int_numberOfTrailingZeros_7 : decode b_Int_numberOfTrailingZeros 7 = .ok (.istore_n 0, 1) := by decide +kernel
theorem d_Int_numberOfTrailingZeros_8 : decode b_Int_numberOfTrailingZeros 8 = .ok (.iload_n 0, 1) := by decide +kernel
theorem d_Int_numberOfTrailingZeros_9 : decode b_Int_numberOfTrailingZeros 9 = .ok (.ifCond .gt 8, 3) := by decide +kernel
theorem d_Int_numberOfTrailingZeros_12 : decode b_Int_numberOfTrailingZeros 12 = .ok (.iload_n 0, 1) := by decide +kernel
theorem d_Int_numberOfTrailingZeros_13 : decode b_Int_numberOfTrailingZeros 13 = .ok (.bipush 32, 2) := by decide +kernel
theorem d_Int_numberOfTrailingZeros_15 : decode b_Int_numberOfTrailingZeros 15 = .ok (.iand, 1) := by decide +kernel
theorem d_Int_numberOfTrailingZeros_16 : decode b_Int_numberOfTrailingZeros 16 = .ok (.ireturn, 1) := by decide +kernel
theorem d_Int_numberOfTrailingZeros_17 : decode b_Int_numberOfTrailingZeros 17 = .ok (.iconst 1, 1) := by decide +kernel
theorem d_Int_numberOfTrailingZeros_18 : decode b_Int_numberOfTrailingZeros 18 = .ok (.istore_n 1, 1) := by decide +kernel
theorem d_Int_numberOfTrailingZeros_19 : decode b_Int_numberOfTrailingZeros 19 = .ok (.iload_n 0, 1) := by decide +kernel
theorem d_Int_numberOfTrailingZeros_20 : decode b_Int_numberOfTrailingZeros 20 = .ok (.ldc_w 264, 3) := by decide +kernel
theorem d_Int_numberOfTrailingZeros_23 : decode b_Int_numberOfTrailingZeros 23 = .ok (.if_icmp .le 11, 3) := by decide +kernel
theorem d_Int_numberOfTrailingZeros_26 : decode b_Int_numberOfTrailingZeros 26 = .ok (.iinc 1 16, 3) := by decide +kernel
theorem d_Int_numberOfTrailingZeros_29 : decode b_Int_numberOfTrailingZeros 29 = .ok (.iload_n 0, 1) := by decide +kernel
theorem d_Int_numberOfTrailingZeros_30 : decode b_Int_numberOfTrailingZeros 30 = .ok (.bipush 16, 2) := by decide +kernel
theorem d_Int_numberOfTrailingZeros_32 : decode b_Int_numberOfTrailingZeros 32 = .ok (.iushr, 1) := by decide +kernel
theorem d_Int_numberOfTrailingZeros_33 : decode b_Int_numberOfTrailingZeros 33 = .ok (.istore_n 0, 1) := by decide +kernel
theorem d_Int_numberOfTrailingZeros_34 : decode b_Int_numberOfTrailingZeros 34 = .ok (.iload_n 0, 1) := by decide +kernel
theorem d_Int_numberOfTrailingZeros_35 : decode b_Int_numberOfTrailingZeros 35 = .ok (.sipush 256, 3) := by decide +kernel
theorem d_Int_numberOfTrailingZeros_38 : decode b_Int_numberOfTrailingZeros 38 = .ok (.if_icmp .le 11, 3) := by decide +kernel
theorem d_Int_numberOfTrailingZeros_41 : decode b_Int_numberOfTrailingZeros 41 = .ok (.iinc 1 8, 3) := by decide +kernel
theorem d_Int_numberOfTrailingZeros_44 : decode b_Int_numberOfTrailingZeros 44 = .ok (.iload_n 0, 1) := by decide +kernel
theorem d_Int_numberOfTrailingZeros_45 : decode b_Int_numberOfTrailingZeros 45 = .ok (.bipush 8, 2) := by decide +kernel
theorem d_Int_numberOfTrailingZeros_47 : decode b_Int_numberOfTrailingZeros 47 = .ok (.iushr, 1) := by decide +kernel
theorem d_Int_numberOfTrailingZeros_48 : decode b_Int_numberOfTrailingZeros 48 = .ok (.istore_n 0, 1) := by decide +kernel
theorem d_Int_numberOfTrailingZeros_49 : decode b_Int_numberOfTrailingZeros 49 = .ok (.iload_n 0, 1) := by decide +kernel
theorem d_Int_numberOfTrailingZeros_50 : decode b_Int_numberOfTrailingZeros 50 = .ok (.bipush 16, 2) := by decide +kernel
theorem d_Int_numberOfTrailingZeros_52 : decode b_Int_numberOfTrailingZeros 52 = .ok (.if_icmp .le 10, 3) := by decide +kernel
theorem d_Int_numberOfTrailingZeros_55 : decode b_Int_numberOfTrailingZeros 55 = .ok (.iinc 1 4, 3) := by decide +kernel
theorem d_Int_numberOfTrailingZeros_58 : decode b_Int_numberOfTrailingZeros 58 = .ok (.iload_n 0, 1) := by decide +kernel
theorem d_Int_numberOfTrailingZeros_59 : decode b_Int_numberOfTrailingZeros 59 = .ok (.iconst 4, 1) := by decide +kernel
theorem d_Int_numberOfTrailingZeros_60 : decode b_Int_numberOfTrailingZeros 60 = .ok (.iushr, 1) := by decide +kernel
theorem d_Int_numberOfTrailingZeros_61 : decode b_Int_numberOfTrailingZeros 61 = .ok (.istore_n 0, 1) := by decide +kernel
theorem d_Int_numberOfTrailingZeros_62 : decode b_Int_numberOfTrailingZeros 62 = .ok (.iload_n 0, 1) := by decide +kernel
theorem d_Int_numberOfTrailingZeros_63 : decode b_Int_numberOfTrailingZeros 63 = .ok (.iconst 4, 1) := by decide +kernel
theorem d_Int_numberOfTrailingZeros_64 : decode b_Int_numberOfTrailingZeros 64 = .ok (.if_icmp .le 10, 3) := by decide +kernel
theorem d_Int_numberOfTrailingZeros_67 : decode b_Int_numberOfTrailingZeros 67 = .ok (.iinc 1 2, 3) := by decide +kernel
theorem d_Int_numberOfTrailingZeros_70 : decode b_Int_numberOfTrailingZeros 70 = .ok (.iload_n 0, 1) := by decide +kernel
theorem d_Int_numberOfTrailingZeros_71 : decode b_Int_numberOfTrailingZeros 71 = .ok (.iconst 2, 1) := by decide +kernel
theorem d_Int_numberOfTrailingZeros_72 : decode b_Int_numberOfTrailingZeros 72 = .ok (.iushr, 1) := by decide +kernel
theorem d_Int_numberOfTrailingZeros_73 : decode b_Int_numberOfTrailingZeros 73 = .ok (.istore_n 0, 1) := by decide +kernel
theorem d_Int_numberOfTrailingZeros_74 : decode b_Int_numberOfTrailingZeros 74 = .ok (.iload_n 1, 1) := by decide +kernel
theorem d_Int_numberOfTrailingZeros_75 : decode b_Int_numberOfTrailingZeros 75 = .ok (.iload_n 0, 1) := by decide +kernel
theorem d_Int_numberOfTrailingZeros_76 : decode b_Int_numberOfTrailingZeros 76 = .ok (.iconst 1, 1) := by decide +kernel
theorem d_Int_numberOfTrailingZeros_77 : decode b_Int_numberOfTrailingZeros 77 = .ok (.iushr, 1) := by decide +kernel
theorem d_Int_numberOfTrailingZeros_78 : decode b_Int_numberOfTrailingZeros 78 = .ok (.iadd, 1) := by decide +kernel
theorem d_Int_numberOfTrailingZeros_79 : decode b_Int_numberOfTrailingZeros 79 = .ok (.ireturn, 1) := by decide +kernel
theorem d_Play_init_0 : decode b_Play_init 0 = .ok (.aload_n 0, 1) := by decide +kernel
theorem d_Play_init_1 : decode b_Play_init 1 = .ok (.invokespecial 3, 3) := by decide +kernel
theorem d_Play_init_4 : decode b_Play_init 4 = .ok (.aload_n 0, 1) := by decide +kernel
theorem d_Play_init_5 : decode b_Play_init 5 = .ok (.iconst 5, 1) := by decide +kernel
theorem d_Play_init_6 : decode b_Play_init 6 = .ok (.newarray .int, 2) := by decide +kernel
theorem d_Play_init_8 : decode b_Play_init 8 = .ok (.putfield 9, 3) := by decide +kernel
theorem d_Play_init_11 : decode b_Play_init 11 = .ok (.aload_n 0, 1) := by decide +kernel
theorem d_Play_init_12 : decode b_Play_init 12 = .ok (.bipush 16, 2) := by decide +kernel
theorem d_Play_init_14 : decode b_Play_init 14 = .ok (.newarray .int, 2) := by decide +kernel
theorem d_Play_init_16 : decode b_Play_init 16 = .ok (.putfield 15, 3) := by decide +kernel
theorem d_Play_init_19 : decode b_Play_init 19 = .ok (.aload_n 0, 1) := by decide +kernel
theorem d_Play_init_20 : decode b_Play_init 20 = .ok (.bipush 16, 2) := by decide +kernel
theorem d_Play_init_22 : decode b_Play_init 22 = .ok (.newarray .int, 2) := by decide +kernel
theorem d_Play_init_24 : decode b_Play_init 24 = .ok (.putfield 18, 3) := by decide +kernel
theorem d_Play_init_27 : decode b_Play_init 27 = .ok (.aload_n 0, 1) := by decide +kernel
theorem d_Play_init_28 : decode b_Play_init 28 = .ok (.bipush 16, 2) := by decide +kernel
theorem d_Play_init_30 : decode b_Play_init 30 = .ok (.newarray .int, 2) := by decide +kernel
theorem d_Play_init_32 : decode b_Play_init 32 = .ok (.putfield 21, 3) := by decide +kernel
theorem d_Play_init_35 : decode b_Play_init 35 = .ok (.aload_n 0, 1) := by decide +kernel
theorem d_Play_init_36 : decode b_Play_init 36 = .ok (.bipush 12, 2) := by decide +kernel
theorem d_Play_init_38 : decode b_Play_init 38 = .ok (.newarray .int, 2) := by decide +kernel
theorem d_Play_init_40 : decode b_Play_init 40 = .ok (.putfield 24, 3) := by decide +kernel
theorem d_Play_init_43 : decode b_Play_init 43 = .ok (.aload_n 0, 1) := by decide +kernel
theorem d_Play_init_44 : decode b_Play_init 44 = .ok (.bipush 12, 2) := by decide +kernel
theorem d_Play_init_46 : decode b_Play_init 46 = .ok (.newarray .int, 2) := by decide +kernel
theorem d_Play_init_48 : decode b_Play_init 48 = .ok (.putfield 27, 3) := by decide +kernel
theorem d_Play_init_51 : decode b_Play_init 51 = .ok (.aload_n 0, 1) := by decide +kernel
theorem d_Play_init_52 : decode b_Play_init 52 = .ok (.bipush 12, 2) := by decide +kernel
theorem d_Play_init_54 : decode b_Play_init 54 = .ok (.newarray .int, 2) := by decide +kernel
theorem d_Play_init_56 : decode b_Play_init 56 = .ok (.putfield 30, 3) := by decide +kernel
theorem d_Play_init_59 : decode b_Play_init 59 = .ok (.aload_n 0, 1) := by decide +kernel
theorem d_Play_init_60 : decode b_Play_init 60 = .ok (.invokevirtual 33, 3) := by decide +kernel
theorem d_Play_init_63 : decode b_Play_init 63 = .ok (.return_, 1) := by decide +kernel
theorem d_Str_length_0 : decode b_Str_length 0 = .ok (.aload_n 0, 1) := by decide +kernel
theorem d_Str_length_1 : decode b_Str_length 1 = .ok (.getfield 9, 3) := by decide +kernel
theorem d_Str_length_4 : decode b_Str_length 4 = .ok (.arraylength, 1) := by decide +kernel
theorem d_Str_length_5 : decode b_Str_length 5 = .ok (.aload_n 0, 1) := by decide +kernel
theorem d_Str_length_6 : decode b_Str_length 6 = .ok (.invokevirtual 335, 3) := by decide +kernel
theorem d_Str_length_9 : decode b_Str_length 9 = .ok (.ishr, 1) := by decide +kernel
theorem d_Str_length_10 : decode b_Str_length 10 = .ok (.ireturn, 1) := by decide +kernel
theorem d_Str_coder_0 : decode b_Str_coder 0 = .ok (.getstatic 38, 3) := by decide +kernel
theorem d_Str_coder_3 : decode b_Str_coder 3 = .ok (.ifCond .eq 10, 3) := by decide +kernel
theorem d_Str_coder_6 : decode b_Str_coder 6 = .ok (.aload_n 0, 1) := by decide +kernel
theorem d_Str_coder_7 : decode b_Str_coder 7 = .ok (.getfield 15, 3) := by decide +kernel
theorem d_Str_coder_10 : decode b_Str_coder 10 = .ok (.goto 4, 3) := by decide +kernel
theorem d_Str_coder_13 : decode b_Str_coder 13 = .ok (.iconst 1, 1) := by decide +kernel
theorem d_Str_coder_14 : decode b_Str_coder 14 = .ok (.ireturn, 1) := by decide +kernel
theorem d_Str_charAt_0 : decode b_Str_charAt 0 = .ok (.aload_n 0, 1) := by decide +kernel
theorem d_Str_charAt_1 : decode b_Str_charAt 1 = .ok (.invokevirtual 492, 3) := by decide +kernel
theorem d_Str_charAt_4 : decode b_Str_charAt 4 = .ok (.ifCond .eq 12, 3) := by decide +kernel
theorem d_Str_charAt_7 : decode b_Str_charAt 7 = .ok (.aload_n 0, 1) := by decide +kernel
theorem d_Str_charAt_8 : decode b_Str_charAt 8 = .ok (.getfield 9, 3) := by decide +kernel
theorem d_Str_charAt_11 : decode b_Str_charAt 11 = .ok (.iload_n 1, 1) := by decide +kernel
theorem d_Str_charAt_12 : decode b_Str_charAt 12 = .ok (.invokestatic 495, 3) := by decide +kernel
theorem d_Str_charAt_15 : decode b_Str_charAt 15 = .ok (.ireturn, 1) := by decide +kernel
theorem d_Str_charAt_16 : decode b_Str_charAt 16 = .ok (.aload_n 0, 1) := by decide +kernel
theorem d_Str_charAt_17 : decode b_Str_charAt 17 = .ok (.getfield 9, 3) := by decide +kernel
theorem d_Str_charAt_20 : decode b_Str_charAt 20 = .ok (.iload_n 1, 1) := by decide +kernel
theorem d_Str_charAt_21 : decode b_Str_charAt 21 = .ok (.invokestatic 498, 3) := by decide +kernel
theorem d_Str_charAt_24 : decode b_Str_charAt 24 = .ok (.ireturn, 1) := by decide +kernel
theorem d_Str_isLatin1_0 : decode b_Str_isLatin1 0 = .ok (.getstatic 38, 3) := by decide +kernel
theorem d_Str_isLatin1_3 : decode b_Str_isLatin1 3 = .ok (.ifCond .eq 14, 3) := by decide +kernel
theorem d_Str_isLatin1_6 : decode b_Str_isLatin1 6 = .ok (.aload_n 0, 1) := by decide +kernel
theorem d_Str_isLatin1_7 : decode b_Str_isLatin1 7 = .ok (.getfield 15, 3) := by decide +kernel
theorem d_Str_isLatin1_10 : decode b_Str_isLatin1 10 = .ok (.ifCond .ne 7, 3) := by decide +kernel
theorem d_Str_isLatin1_13 : decode b_Str_isLatin1 13 = .ok (.iconst 1, 1) := by decide +kernel
theorem d_Str_isLatin1_14 : decode b_Str_isLatin1 14 = .ok (.goto 4, 3) := by decide +kernel
theorem d_Str_isLatin1_17 : decode b_Str_isLatin1 17 = .ok (.iconst 0, 1) := by decide +kernel
theorem d_Str_isLatin1_18 : decode b_Str_isLatin1 18 = .ok (.ireturn, 1) := by decide +kernel
theorem d_SL1_charAt_0 : decode b_SL1_charAt 0 = .ok (.iload_n 1, 1) := by decide +kernel
theorem d_SL1_charAt_1 : decode b_SL1_charAt 1 = .ok (.aload_n 0, 1) := by decide +kernel
theorem d_SL1_charAt_2 : decode b_SL1_charAt 2 = .ok (.arraylength, 1) := by decide +kernel
theorem d_SL1_charAt_3 : decode b_SL1_charAt 3 = .ok (.invokestatic 9, 3) := by decide +kernel
theorem d_SL1_charAt_6 : decode b_SL1_charAt 6 = .ok (.aload_n 0, 1) := by decide +kernel
theorem d_SL1_charAt_7 : decode b_SL1_charAt 7 = .ok (.iload_n 1, 1) := by decide +kernel
theorem d_SL1_charAt_8 : decode b_SL1_charAt 8 = .ok (.baload, 1) := by decide +kernel
theorem d_SL1_charAt_9 : decode b_SL1_charAt 9 = .ok (.sipush 255, 3) := by decide +kernel
theorem d_SL1_charAt_12 : decode b_SL1_charAt 12 = .ok (.iand, 1) := by decide +kernel
theorem d_SL1_charAt_13 : decode b_SL1_charAt 13 = .ok (.i2c, 1) := by decide +kernel
theorem d_SL1_charAt_14 : decode b_SL1_charAt 14 = .ok (.ireturn, 1) := by decide +kernel
theorem d_Str_checkIndex_0 : decode b_Str_checkIndex 0 = .ok (.iload_n 0, 1) := by decide +kernel
theorem d_Str_checkIndex_1 : decode b_Str_checkIndex 1 = .ok (.iload_n 1, 1) := by decide +kernel
theorem d_Str_checkIndex_2 : decode b_Str_checkIndex 2 = .ok (.getstatic 1053, 3) := by decide +kernel
theorem d_Str_checkIndex_5 : decode b_Str_checkIndex 5 = .ok (.invokestatic 1059, 3) := by decide +kernel
theorem d_Str_checkIndex_8 : decode b_Str_checkIndex 8 = .ok (.pop, 1) := by decide +kernel
theorem d_Str_checkIndex_9 : decode b_Str_checkIndex 9 = .ok (.return_, 1) := by decide +kernel
theorem d_Pre_checkIndex_0 : decode b_Pre_checkIndex 0 = .ok (.iload_n 0, 1) := by decide +kernel
theorem d_Pre_checkIndex_1 : decode b_Pre_checkIndex 1 = .ok (.ifCond .lt 8, 3) := by decide +kernel
theorem d_Pre_checkIndex_4 : decode b_Pre_checkIndex 4 = .ok (.iload_n 0, 1) := by decide +kernel
theorem d_Pre_checkIndex_5 : decode b_Pre_checkIndex 5 = .ok (.iload_n 1, 1) := by decide +kernel
theorem d_Pre_checkIndex_6 : decode b_Pre_checkIndex 6 = .ok (.if_icmp .lt 10, 3) := by decide +kernel
theorem d_Pre_checkIndex_9 : decode b_Pre_checkIndex 9 = .ok (.aload_n 2, 1) := by decide +kernel
theorem d_Pre_checkIndex_10 : decode b_Pre_checkIndex 10 = .ok (.iload_n 0, 1) := by decide +kernel
theorem d_Pre_checkIndex_11 : decode b_Pre_checkIndex 11 = .ok (.iload_n 1, 1) := by decide +kernel
theorem d_Pre_checkIndex_12 : decode b_Pre_checkIndex 12 = .ok (.invokestatic 95, 3) := by decide +kernel
theorem d_Pre_checkIndex_15 : decode b_Pre_checkIndex 15 = .ok (.athrow, 1) := by decide +kernel
theorem d_Pre_checkIndex_16 : decode b_Pre_checkIndex 16 = .ok (.iload_n 0, 1) := by decide +kernel
theorem d_Pre_checkIndex_17 : decode b_Pre_checkIndex 17 = .ok (.ireturn, 1) := by decide +kernel
