theorem dX0_isNote_14 : decode cX0_isNote 14 = .ok (.ireturn, 1) := by decide +kernel
theorem dX0_lasts_0 : decode cX0_lasts 0 = .ok (.aload_n 0, 1) := by decide +kernel
theorem dX0_lasts_1 : decode cX0_lasts 1 = .ok (.getfield 40, 3) := by decide +kernel
theorem dX0_lasts_4 : decode cX0_lasts 4 = .ok (.iload_n 1, 1) := by decide +kernel
theorem dX0_lasts_5 : decode cX0_lasts 5 = .ok (.iaload, 1) := by decide +kernel
theorem dX0_lasts_6 : decode cX0_lasts 6 = .ok (.iconst 2, 1) := by decide +kernel
theorem dX0_lasts_7 : decode cX0_lasts 7 = .ok (.if_icmp .ne 10, 3) := by decide +kernel
theorem dX0_lasts_10 : decode cX0_lasts 10 = .ok (.aload_n 0, 1) := by decide +kernel
theorem dX0_lasts_11 : decode cX0_lasts 11 = .ok (.getfield 9, 3) := by decide +kernel
theorem dX0_lasts_14 : decode cX0_lasts 14 = .ok (.goto 24, 3) := by decide +kernel
theorem dX0_lasts_17 : decode cX0_lasts 17 = .ok (.aload_n 0, 1) := by decide +kernel
theorem dX0_lasts_18 : decode cX0_lasts 18 = .ok (.getfield 37, 3) := by decide +kernel
theorem dX0_lasts_21 : decode cX0_lasts 21 = .ok (.iload_n 1, 1) := by decide +kernel
theorem dX0_lasts_22 : decode cX0_lasts 22 = .ok (.iaload, 1) := by decide +kernel
theorem dX0_lasts_23 : decode cX0_lasts 23 = .ok (.aload_n 0, 1) := by decide +kernel
theorem dX0_lasts_24 : decode cX0_lasts 24 = .ok (.getfield 40, 3) := by decide +kernel
theorem dX0_lasts_27 : decode cX0_lasts 27 = .ok (.iload_n 1, 1) := by decide +kernel
theorem dX0_lasts_28 : decode cX0_lasts 28 = .ok (.iaload, 1) := by decide +kernel
theorem dX0_lasts_29 : decode cX0_lasts 29 = .ok (.aload_n 0, 1) := by decide +kernel
theorem dX0_lasts_30 : decode cX0_lasts 30 = .ok (.getfield 43, 3) := by decide +kernel
theorem dX0_lasts_33 : decode cX0_lasts 33 = .ok (.iload_n 1, 1) := by decide +kernel
theorem dX0_lasts_34 : decode cX0_lasts 34 = .ok (.iaload, 1) := by decide +kernel
theorem dX0_lasts_35 : decode cX0_lasts 35 = .ok (.invokestatic 87, 3) := by decide +kernel
theorem dX0_lasts_38 : decode cX0_lasts 38 = .ok (.ireturn, 1) := by decide +kernel
theorem dX0_voiceLasts_0 : decode cX0_voiceLasts 0 = .ok (.iconst 0, 1) := by decide +kernel
theorem dX0_voiceLasts_1 : decode cX0_voiceLasts 1 = .ok (.istore_n 2, 1) := by decide +kernel
theorem dX0_voiceLasts_2 : decode cX0_voiceLasts 2 = .ok (.aload_n 0, 1) := by decide +kernel
theorem dX0_voiceLasts_3 : decode cX0_voiceLasts 3 = .ok (.getfield 19, 3) := by decide +kernel
theorem dX0_voiceLasts_6 : decode cX0_voiceLasts 6 = .ok (.iload_n 1, 1) := by decide +kernel
theorem dX0_voiceLasts_7 : decode cX0_voiceLasts 7 = .ok (.iaload, 1) := by decide +kernel
theorem dX0_voiceLasts_8 : decode cX0_voiceLasts 8 = .ok (.istore_n 3, 1) := by decide +kernel
theorem dX0_voiceLasts_9 : decode cX0_voiceLasts 9 = .ok (.iload_n 3, 1) := by decide +kernel
theorem dX0_voiceLasts_10 : decode cX0_voiceLasts 10 = .ok (.aload_n 0, 1) := by decide +kernel
theorem dX0_voiceLasts_11 : decode cX0_voiceLasts 11 = .ok (.getfield 19, 3) := by decide +kernel
theorem dX0_voiceLasts_14 : decode cX0_voiceLasts 14 = .ok (.iload_n 1, 1) := by decide +kernel
theorem dX0_voiceLasts_15 : decode cX0_voiceLasts 15 = .ok (.iaload, 1) := by decide +kernel
theorem dX0_voiceLasts_16 : decode cX0_voiceLasts 16 = .ok (.aload_n 0, 1) := by decide +kernel
theorem dX0_voiceLasts_17 : decode cX0_voiceLasts 17 = .ok (.getfield 22, 3) := by decide +kernel
theorem dX0_voiceLasts_20 : decode cX0_voiceLasts 20 = .ok (.iload_n 1, 1) := by decide +kernel
theorem dX0_voiceLasts_21 : decode cX0_voiceLasts 21 = .ok (.iaload, 1) := by decide +kernel
theorem dX0_voiceLasts_22 : decode cX0_voiceLasts 22 = .ok (.iadd, 1) := by decide +kernel
theorem dX0_voiceLasts_23 : decode cX0_voiceLasts 23 = .ok (.if_icmp .ge 17, 3) := by decide +kernel
theorem dX0_voiceLasts_26 : decode cX0_voiceLasts 26 = .ok (.iload_n 2, 1) := by decide +kernel
theorem dX0_voiceLasts_27 : decode cX0_voiceLasts 27 = .ok (.aload_n 0, 1) := by decide +kernel
theorem dX0_voiceLasts_28 : decode cX0_voiceLasts 28 = .ok (.iload_n 3, 1) := by decide +kernel
theorem dX0_voiceLasts_29 : decode cX0_voiceLasts 29 = .ok (.invokevirtual 90, 3) := by decide +kernel
theorem dX0_voiceLasts_32 : decode cX0_voiceLasts 32 = .ok (.iadd, 1) := by decide +kernel
theorem dX0_voiceLasts_33 : decode cX0_voiceLasts 33 = .ok (.istore_n 2, 1) := by decide +kernel
theorem dX0_voiceLasts_34 : decode cX0_voiceLasts 34 = .ok (.iinc 3 1, 3) := by decide +kernel
theorem dX0_voiceLasts_37 : decode cX0_voiceLasts 37 = .ok (.goto (-28), 3) := by decide +kernel
theorem dX0_voiceLasts_40 : decode cX0_voiceLasts 40 = .ok (.iload_n 2, 1) := by decide +kernel
theorem dX0_voiceLasts_41 : decode cX0_voiceLasts 41 = .ok (.ireturn, 1) := by decide +kernel
theorem dX0_isWhole_0 : decode cX0_isWhole 0 = .ok (.aload_n 0, 1) := by decide +kernel
theorem dX0_isWhole_1 : decode cX0_isWhole 1 = .ok (.iload_n 1, 1) := by decide +kernel
theorem dX0_isWhole_2 : decode cX0_isWhole 2 = .ok (.invokevirtual 94, 3) := by decide +kernel
theorem dX0_isWhole_5 : decode cX0_isWhole 5 = .ok (.aload_n 0, 1) := by decide +kernel
theorem dX0_isWhole_6 : decode cX0_isWhole 6 = .ok (.getfield 9, 3) := by decide +kernel
theorem dX0_isWhole_9 : decode cX0_isWhole 9 = .ok (.if_icmp .ne 7, 3) := by decide +kernel
theorem dX0_isWhole_12 : decode cX0_isWhole 12 = .ok (.iconst 1, 1) := by decide +kernel
theorem dX0_isWhole_13 : decode cX0_isWhole 13 = .ok (.goto 4, 3) := by decide +kernel
theorem dX0_isWhole_16 : decode cX0_isWhole 16 = .ok (.iconst 0, 1) := by decide +kernel
theorem dX0_isWhole_17 : decode cX0_isWhole 17 = .ok (.ireturn, 1) := by decide +kernel
theorem dX0_endsWhole_0 : decode cX0_endsWhole 0 = .ok (.aload_n 0, 1) := by decide +kernel
theorem dX0_endsWhole_1 : decode cX0_endsWhole 1 = .ok (.invokevirtual 71, 3) := by decide +kernel
theorem dX0_endsWhole_4 : decode cX0_endsWhole 4 = .ok (.istore_n 1, 1) := by decide +kernel
theorem dX0_endsWhole_5 : decode cX0_endsWhole 5 = .ok (.iload_n 1, 1) := by decide +kernel
theorem dX0_endsWhole_6 : decode cX0_endsWhole 6 = .ok (.ifCond .lt 11, 3) := by decide +kernel
theorem dX0_endsWhole_9 : decode cX0_endsWhole 9 = .ok (.aload_n 0, 1) := by decide +kernel
theorem dX0_endsWhole_10 : decode cX0_endsWhole 10 = .ok (.iload_n 1, 1) := by decide +kernel
theorem dX0_endsWhole_11 : decode cX0_endsWhole 11 = .ok (.invokevirtual 97, 3) := by decide +kernel
theorem dX0_endsWhole_14 : decode cX0_endsWhole 14 = .ok (.ifCond .eq 7, 3) := by decide +kernel
theorem dX0_endsWhole_17 : decode cX0_endsWhole 17 = .ok (.iconst 1, 1) := by decide +kernel
theorem dX0_endsWhole_18 : decode cX0_endsWhole 18 = .ok (.goto 4, 3) := by decide +kernel
theorem dX0_endsWhole_21 : decode cX0_endsWhole 21 = .ok (.iconst 0, 1) := by decide +kernel
theorem dX0_endsWhole_22 : decode cX0_endsWhole 22 = .ok (.ireturn, 1) := by decide +kernel
theorem dX0_itemsOfBar_0 : decode cX0_itemsOfBar 0 = .ok (.iconst 0, 1) := by decide +kernel
theorem dX0_itemsOfBar_1 : decode cX0_itemsOfBar 1 = .ok (.istore_n 2, 1) := by decide +kernel
theorem dX0_itemsOfBar_2 : decode cX0_itemsOfBar 2 = .ok (.iconst 0, 1) := by decide +kernel
theorem dX0_itemsOfBar_3 : decode cX0_itemsOfBar 3 = .ok (.istore_n 3, 1) := by decide +kernel
theorem dX0_itemsOfBar_4 : decode cX0_itemsOfBar 4 = .ok (.iload_n 3, 1) := by decide +kernel
theorem dX0_itemsOfBar_5 : decode cX0_itemsOfBar 5 = .ok (.aload_n 0, 1) := by decide +kernel
theorem dX0_itemsOfBar_6 : decode cX0_itemsOfBar 6 = .ok (.getfield 15, 3) := by decide +kernel
theorem dX0_itemsOfBar_9 : decode cX0_itemsOfBar 9 = .ok (.iload_n 1, 1) := by decide +kernel
theorem dX0_itemsOfBar_10 : decode cX0_itemsOfBar 10 = .ok (.iaload, 1) := by decide +kernel
theorem dX0_itemsOfBar_11 : decode cX0_itemsOfBar 11 = .ok (.if_icmp .ge 22, 3) := by decide +kernel
theorem dX0_itemsOfBar_14 : decode cX0_itemsOfBar 14 = .ok (.iload_n 2, 1) := by decide +kernel
theorem dX0_itemsOfBar_15 : decode cX0_itemsOfBar 15 = .ok (.aload_n 0, 1) := by decide +kernel
theorem dX0_itemsOfBar_16 : decode cX0_itemsOfBar 16 = .ok (.getfield 22, 3) := by decide +kernel
theorem dX0_itemsOfBar_19 : decode cX0_itemsOfBar 19 = .ok (.iload_n 1, 1) := by decide +kernel
theorem dX0_itemsOfBar_20 : decode cX0_itemsOfBar 20 = .ok (.iconst 3, 1) := by decide +kernel
theorem dX0_itemsOfBar_21 : decode cX0_itemsOfBar 21 = .ok (.imul, 1) := by decide +kernel
theorem dX0_itemsOfBar_22 : decode cX0_itemsOfBar 22 = .ok (.iload_n 3, 1) := by decide +kernel
theorem dX0_itemsOfBar_23 : decode cX0_itemsOfBar 23 = .ok (.iadd, 1) := by decide +kernel
theorem dX0_itemsOfBar_24 : decode cX0_itemsOfBar 24 = .ok (.iaload, 1) := by decide +kernel
theorem dX0_itemsOfBar_25 : decode cX0_itemsOfBar 25 = .ok (.iadd, 1) := by decide +kernel
theorem dX0_itemsOfBar_26 : decode cX0_itemsOfBar 26 = .ok (.istore_n 2, 1) := by decide +kernel
theorem dX0_itemsOfBar_27 : decode cX0_itemsOfBar 27 = .ok (.iinc 3 1, 3) := by decide +kernel
theorem dX0_itemsOfBar_30 : decode cX0_itemsOfBar 30 = .ok (.goto (-26), 3) := by decide +kernel
theorem dX0_itemsOfBar_33 : decode cX0_itemsOfBar 33 = .ok (.iload_n 2, 1) := by decide +kernel
theorem dX0_itemsOfBar_34 : decode cX0_itemsOfBar 34 = .ok (.ireturn, 1) := by decide +kernel
theorem dX0_isLoneWholeRest_0 : decode cX0_isLoneWholeRest 0 = .ok (.aload_n 0, 1) := by decide +kernel
theorem dX0_isLoneWholeRest_1 : decode cX0_isLoneWholeRest 1 = .ok (.getfield 19, 3) := by decide +kernel
theorem dX0_isLoneWholeRest_4 : decode cX0_isLoneWholeRest 4 = .ok (.iload_n 1, 1) := by decide +kernel
theorem dX0_isLoneWholeRest_5 : decode cX0_isLoneWholeRest 5 = .ok (.iaload, 1) := by decide +kernel
theorem dX0_isLoneWholeRest_6 : decode cX0_isLoneWholeRest 6 = .ok (.istore_n 2, 1) := by decide +kernel
theorem dX0_isLoneWholeRest_7 : decode cX0_isLoneWholeRest 7 = .ok (.aload_n 0, 1) := by decide +kernel
theorem dX0_isLoneWholeRest_8 : decode cX0_isLoneWholeRest 8 = .ok (.getfield 22, 3) := by decide +kernel
theorem dX0_isLoneWholeRest_11 : decode cX0_isLoneWholeRest 11 = .ok (.iload_n 1, 1) := by decide +kernel
theorem dX0_isLoneWholeRest_12 : decode cX0_isLoneWholeRest 12 = .ok (.iaload, 1) := by decide +kernel
theorem dX0_isLoneWholeRest_13 : decode cX0_isLoneWholeRest 13 = .ok (.iconst 1, 1) := by decide +kernel
theorem dX0_isLoneWholeRest_14 : decode cX0_isLoneWholeRest 14 = .ok (.if_icmp .ne 33, 3) := by decide +kernel
theorem dX0_isLoneWholeRest_17 : decode cX0_isLoneWholeRest 17 = .ok (.aload_n 0, 1) := by decide +kernel
theorem dX0_isLoneWholeRest_18 : decode cX0_isLoneWholeRest 18 = .ok (.iload_n 2, 1) := by decide +kernel
theorem dX0_isLoneWholeRest_19 : decode cX0_isLoneWholeRest 19 = .ok (.invokevirtual 100, 3) := by decide +kernel
theorem dX0_isLoneWholeRest_22 : decode cX0_isLoneWholeRest 22 = .ok (.ifCond .ne 25, 3) := by decide +kernel
theorem dX0_isLoneWholeRest_25 : decode cX0_isLoneWholeRest 25 = .ok (.aload_n 0, 1) := by decide +kernel
theorem dX0_isLoneWholeRest_26 : decode cX0_isLoneWholeRest 26 = .ok (.getfield 37, 3) := by decide +kernel
theorem dX0_isLoneWholeRest_29 : decode cX0_isLoneWholeRest 29 = .ok (.iload_n 2, 1) := by decide +kernel
theorem dX0_isLoneWholeRest_30 : decode cX0_isLoneWholeRest 30 = .ok (.iaload, 1) := by decide +kernel
theorem dX0_isLoneWholeRest_31 : decode cX0_isLoneWholeRest 31 = .ok (.ifCond .ne 16, 3) := by decide +kernel
theorem dX0_isLoneWholeRest_34 : decode cX0_isLoneWholeRest 34 = .ok (.aload_n 0, 1) := by decide +kernel
theorem dX0_isLoneWholeRest_35 : decode cX0_isLoneWholeRest 35 = .ok (.getfield 43, 3) := by decide +kernel
theorem dX0_isLoneWholeRest_38 : decode cX0_isLoneWholeRest 38 = .ok (.iload_n 2, 1) := by decide +kernel
theorem dX0_isLoneWholeRest_39 : decode cX0_isLoneWholeRest 39 = .ok (.iaload, 1) := by decide +kernel
theorem dX0_isLoneWholeRest_40 : decode cX0_isLoneWholeRest 40 = .ok (.ifCond .ne 7, 3) := by decide +kernel
theorem dX0_isLoneWholeRest_43 : decode cX0_isLoneWholeRest 43 = .ok (.iconst 1, 1) := by decide +kernel
theorem dX0_isLoneWholeRest_44 : decode cX0_isLoneWholeRest 44 = .ok (.goto 4, 3) := by decide +kernel
theorem dX0_isLoneWholeRest_47 : decode cX0_isLoneWholeRest 47 = .ok (.iconst 0, 1) := by decide +kernel
theorem dX0_isLoneWholeRest_48 : decode cX0_isLoneWholeRest 48 = .ok (.ireturn, 1) := by decide +kernel
theorem dX1_init_0 : decode cX1_init 0 = .ok (.aload_n 0, 1) := by decide +kernel
theorem dX1_init_1 : decode cX1_init 1 = .ok (.invokespecial 3, 3) := by decide +kernel
theorem dX1_init_4 : decode cX1_init 4 = .ok (.aload_n 0, 1) := by decide +kernel
theorem dX1_init_5 : decode cX1_init 5 = .ok (.bipush 7, 2) := by decide +kernel
theorem dX1_init_7 : decode cX1_init 7 = .ok (.putfield 9, 3) := by decide +kernel
theorem dX1_init_10 : decode cX1_init 10 = .ok (.aload_n 0, 1) := by decide +kernel
theorem dX1_init_11 : decode cX1_init 11 = .ok (.iconst 1, 1) := by decide +kernel
theorem dX1_init_12 : decode cX1_init 12 = .ok (.putfield 15, 3) := by decide +kernel
theorem dX1_init_15 : decode cX1_init 15 = .ok (.return_, 1) := by decide +kernel
theorem dX1_isLeap_0 : decode cX1_isLeap 0 = .ok (.iload_n 0, 1) := by decide +kernel
theorem dX1_isLeap_1 : decode cX1_isLeap 1 = .ok (.iload_n 1, 1) := by decide +kernel
theorem dX1_isLeap_2 : decode cX1_isLeap 2 = .ok (.isub, 1) := by decide +kernel
theorem dX1_isLeap_3 : decode cX1_isLeap 3 = .ok (.invokestatic 19, 3) := by decide +kernel
theorem dX1_isLeap_6 : decode cX1_isLeap 6 = .ok (.istore_n 2, 1) := by decide +kernel
theorem dX1_isLeap_7 : decode cX1_isLeap 7 = .ok (.iload_n 2, 1) := by decide +kernel
theorem dX1_isLeap_8 : decode cX1_isLeap 8 = .ok (.iconst 2, 1) := by decide +kernel
theorem dX1_isLeap_9 : decode cX1_isLeap 9 = .ok (.if_icmp .gt 5, 3) := by decide +kernel
theorem dX1_isLeap_12 : decode cX1_isLeap 12 = .ok (.iconst 0, 1) := by decide +kernel
theorem dX1_isLeap_13 : decode cX1_isLeap 13 = .ok (.ireturn, 1) := by decide +kernel
theorem dX1_isLeap_14 : decode cX1_isLeap 14 = .ok (.iload_n 2, 1) := by decide +kernel
theorem dX1_isLeap_15 : decode cX1_isLeap 15 = .ok (.iconst 4, 1) := by decide +kernel
theorem dX1_isLeap_16 : decode cX1_isLeap 16 = .ok (.if_icmp .gt 14, 3) := by decide +kernel
theorem dX1_isLeap_19 : decode cX1_isLeap 19 = .ok (.iload_n 0, 1) := by decide +kernel
theorem dX1_isLeap_20 : decode cX1_isLeap 20 = .ok (.bipush 7, 2) := by decide +kernel
theorem dX1_isLeap_22 : decode cX1_isLeap 22 = .ok (.idiv, 1) := by decide +kernel
theorem dX1_isLeap_23 : decode cX1_isLeap 23 = .ok (.iload_n 1, 1) := by decide +kernel
theorem dX1_isLeap_24 : decode cX1_isLeap 24 = .ok (.bipush 7, 2) := by decide +kernel
theorem dX1_isLeap_26 : decode cX1_isLeap 26 = .ok (.idiv, 1) := by decide +kernel
theorem dX1_isLeap_27 : decode cX1_isLeap 27 = .ok (.if_icmp .eq 7, 3) := by decide +kernel
theorem dX1_isLeap_30 : decode cX1_isLeap 30 = .ok (.iconst 1, 1) := by decide +kernel
theorem dX1_isLeap_31 : decode cX1_isLeap 31 = .ok (.goto 4, 3) := by decide +kernel
theorem dX1_isLeap_34 : decode cX1_isLeap 34 = .ok (.iconst 0, 1) := by decide +kernel
theorem dX1_isLeap_35 : decode cX1_isLeap 35 = .ok (.ireturn, 1) := by decide +kernel
theorem dX1_forget_0 : decode cX1_forget 0 = .ok (.aload_n 0, 1) := by decide +kernel
theorem dX1_forget_1 : decode cX1_forget 1 = .ok (.iconst 1, 1) := by decide +kernel
theorem dX1_forget_2 : decode cX1_forget 2 = .ok (.putfield 15, 3) := by decide +kernel
theorem dX1_forget_5 : decode cX1_forget 5 = .ok (.return_, 1) := by decide +kernel
theorem dX1_heard_0 : decode cX1_heard 0 = .ok (.aload_n 0, 1) := by decide +kernel
theorem dX1_heard_1 : decode cX1_heard 1 = .ok (.iload_n 1, 1) := by decide +kernel
theorem dX1_heard_2 : decode cX1_heard 2 = .ok (.putfield 9, 3) := by decide +kernel
theorem dX1_heard_5 : decode cX1_heard 5 = .ok (.aload_n 0, 1) := by decide +kernel
theorem dX1_heard_6 : decode cX1_heard 6 = .ok (.iconst 0, 1) := by decide +kernel
theorem dX1_heard_7 : decode cX1_heard 7 = .ok (.putfield 15, 3) := by decide +kernel
theorem dX1_heard_10 : decode cX1_heard 10 = .ok (.return_, 1) := by decide +kernel
theorem dX1_enterBar_0 : decode cX1_enterBar 0 = .ok (.iload_n 2, 1) := by decide +kernel
theorem dX1_enterBar_1 : decode cX1_enterBar 1 = .ok (.ifCond .le 27, 3) := by decide +kernel
theorem dX1_enterBar_4 : decode cX1_enterBar 4 = .ok (.iload_n 2, 1) := by decide +kernel
theorem dX1_enterBar_5 : decode cX1_enterBar 5 = .ok (.aload_n 1, 1) := by decide +kernel
theorem dX1_enterBar_6 : decode cX1_enterBar 6 = .ok (.getfield 25, 3) := by decide +kernel
theorem dX1_enterBar_9 : decode cX1_enterBar 9 = .ok (.if_icmp .gt 19, 3) := by decide +kernel
theorem dX1_enterBar_12 : decode cX1_enterBar 12 = .ok (.aload_n 1, 1) := by decide +kernel
theorem dX1_enterBar_13 : decode cX1_enterBar 13 = .ok (.getfield 30, 3) := by decide +kernel
theorem dX1_enterBar_16 : decode cX1_enterBar 16 = .ok (.iload_n 2, 1) := by decide +kernel
theorem dX1_enterBar_17 : decode cX1_enterBar 17 = .ok (.iconst 1, 1) := by decide +kernel
theorem dX1_enterBar_18 : decode cX1_enterBar 18 = .ok (.isub, 1) := by decide +kernel
theorem dX1_enterBar_19 : decode cX1_enterBar 19 = .ok (.iaload, 1) := by decide +kernel
theorem dX1_enterBar_20 : decode cX1_enterBar 20 = .ok (.iconst 1, 1) := by decide +kernel
theorem dX1_enterBar_21 : decode cX1_enterBar 21 = .ok (.if_icmp .ne 7, 3) := by decide +kernel
theorem dX1_enterBar_24 : decode cX1_enterBar 24 = .ok (.iconst 1, 1) := by decide +kernel
theorem dX1_enterBar_25 : decode cX1_enterBar 25 = .ok (.goto 4, 3) := by decide +kernel
theorem dX1_enterBar_28 : decode cX1_enterBar 28 = .ok (.iconst 0, 1) := by decide +kernel
theorem dX1_enterBar_29 : decode cX1_enterBar 29 = .ok (.istore_n 3, 1) := by decide +kernel
theorem dX1_enterBar_30 : decode cX1_enterBar 30 = .ok (.iload_n 3, 1) := by decide +kernel
theorem dX1_enterBar_31 : decode cX1_enterBar 31 = .ok (.ifCond .ne 7, 3) := by decide +kernel
theorem dX1_enterBar_34 : decode cX1_enterBar 34 = .ok (.aload_n 0, 1) := by decide +kernel
theorem dX1_enterBar_35 : decode cX1_enterBar 35 = .ok (.invokevirtual 34, 3) := by decide +kernel
theorem dX1_enterBar_38 : decode cX1_enterBar 38 = .ok (.return_, 1) := by decide +kernel
theorem dX1_needsSign_0 : decode cX1_needsSign 0 = .ok (.aload_n 0, 1) := by decide +kernel
theorem dX1_needsSign_1 : decode cX1_needsSign 1 = .ok (.getfield 15, 3) := by decide +kernel
theorem dX1_needsSign_4 : decode cX1_needsSign 4 = .ok (.ifCond .ne 14, 3) := by decide +kernel
theorem dX1_needsSign_7 : decode cX1_needsSign 7 = .ok (.aload_n 0, 1) := by decide +kernel
theorem dX1_needsSign_8 : decode cX1_needsSign 8 = .ok (.getfield 9, 3) := by decide +kernel
theorem dX1_needsSign_11 : decode cX1_needsSign 11 = .ok (.iload_n 1, 1) := by decide +kernel
theorem dX1_needsSign_12 : decode cX1_needsSign 12 = .ok (.invokestatic 37, 3) := by decide +kernel
theorem dX1_needsSign_15 : decode cX1_needsSign 15 = .ok (.ifCond .eq 7, 3) := by decide +kernel
theorem dX1_needsSign_18 : decode cX1_needsSign 18 = .ok (.iconst 1, 1) := by decide +kernel
theorem dX1_needsSign_19 : decode cX1_needsSign 19 = .ok (.goto 4, 3) := by decide +kernel
theorem dX1_needsSign_22 : decode cX1_needsSign 22 = .ok (.iconst 0, 1) := by decide +kernel
theorem dX1_needsSign_23 : decode cX1_needsSign 23 = .ok (.ireturn, 1) := by decide +kernel
theorem dX1_nearest_0 : decode cX1_nearest 0 = .ok (.aload_n 0, 1) := by decide +kernel
theorem dX1_nearest_1 : decode cX1_nearest 1 = .ok (.getfield 9, 3) := by decide +kernel
theorem dX1_nearest_4 : decode cX1_nearest 4 = .ok (.bipush 7, 2) := by decide +kernel
theorem dX1_nearest_6 : decode cX1_nearest 6 = .ok (.idiv, 1) := by decide +kernel
theorem dX1_nearest_7 : decode cX1_nearest 7 = .ok (.bipush 7, 2) := by decide +kernel
theorem dX1_nearest_9 : decode cX1_nearest 9 = .ok (.imul, 1) := by decide +kernel
theorem dX1_nearest_10 : decode cX1_nearest 10 = .ok (.iload_n 1, 1) := by decide +kernel
theorem dX1_nearest_11 : decode cX1_nearest 11 = .ok (.iadd, 1) := by decide +kernel
theorem dX1_nearest_12 : decode cX1_nearest 12 = .ok (.istore_n 2, 1) := by decide +kernel
theorem dX1_nearest_13 : decode cX1_nearest 13 = .ok (.aload_n 0, 1) := by decide +kernel
theorem dX1_nearest_14 : decode cX1_nearest 14 = .ok (.getfield 9, 3) := by decide +kernel
theorem dX1_nearest_17 : decode cX1_nearest 17 = .ok (.iload_n 2, 1) := by decide +kernel
theorem dX1_nearest_18 : decode cX1_nearest 18 = .ok (.invokestatic 37, 3) := by decide +kernel
theorem dX1_nearest_21 : decode cX1_nearest 21 = .ok (.ifCond .ne 5, 3) := by decide +kernel
theorem dX1_nearest_24 : decode cX1_nearest 24 = .ok (.iload_n 2, 1) := by decide +kernel
theorem dX1_nearest_25 : decode cX1_nearest 25 = .ok (.ireturn, 1) := by decide +kernel
theorem dX1_nearest_26 : decode cX1_nearest 26 = .ok (.iload_n 2, 1) := by decide +kernel
theorem dX1_nearest_27 : decode cX1_nearest 27 = .ok (.aload_n 0, 1) := by decide +kernel
theorem dX1_nearest_28 : decode cX1_nearest 28 = .ok (.getfield 9, 3) := by decide +kernel
theorem dX1_nearest_31 : decode cX1_nearest 31 = .ok (.if_icmp .le 10, 3) := by decide +kernel
theorem dX1_nearest_34 : decode cX1_nearest 34 = .ok (.iload_n 2, 1) := by decide +kernel
theorem dX1_nearest_35 : decode cX1_nearest 35 = .ok (.bipush 7, 2) := by decide +kernel
theorem dX1_nearest_37 : decode cX1_nearest 37 = .ok (.isub, 1) := by decide +kernel
theorem dX1_nearest_38 : decode cX1_nearest 38 = .ok (.goto 7, 3) := by decide +kernel
theorem dX1_nearest_41 : decode cX1_nearest 41 = .ok (.iload_n 2, 1) := by decide +kernel
theorem dX1_nearest_42 : decode cX1_nearest 42 = .ok (.bipush 7, 2) := by decide +kernel
theorem dX1_nearest_44 : decode cX1_nearest 44 = .ok (.iadd, 1) := by decide +kernel
theorem dX1_nearest_45 : decode cX1_nearest 45 = .ok (.ireturn, 1) := by decide +kernel
theorem dX2_init_0 : decode cX2_init 0 = .ok (.aload_n 0, 1) := by decide +kernel
theorem dX2_init_1 : decode cX2_init 1 = .ok (.invokespecial 3, 3) := by decide +kernel
theorem dX2_init_4 : decode cX2_init 4 = .ok (.aload_n 0, 1) := by decide +kernel
theorem dX2_init_5 : decode cX2_init 5 = .ok (.sipush 4000, 3) := by decide +kernel
theorem dX2_init_8 : decode cX2_init 8 = .ok (.newarray .int, 2) := by decide +kernel
theorem dX2_init_10 : decode cX2_init 10 = .ok (.putfield 9, 3) := by decide +kernel
theorem dX2_init_13 : decode cX2_init 13 = .ok (.return_, 1) := by decide +kernel
theorem dX2_put_0 : decode cX2_put 0 = .ok (.aload_n 0, 1) := by decide +kernel
theorem dX2_put_1 : decode cX2_put 1 = .ok (.getfield 15, 3) := by decide +kernel
theorem dX2_put_4 : decode cX2_put 4 = .ok (.sipush 4000, 3) := by decide +kernel
theorem dX2_put_7 : decode cX2_put 7 = .ok (.if_icmp .ge 13, 3) := by decide +kernel
theorem dX2_put_10 : decode cX2_put 10 = .ok (.aload_n 0, 1) := by decide +kernel
theorem dX2_put_11 : decode cX2_put 11 = .ok (.getfield 9, 3) := by decide +kernel
theorem dX2_put_14 : decode cX2_put 14 = .ok (.aload_n 0, 1) := by decide +kernel
theorem dX2_put_15 : decode cX2_put 15 = .ok (.getfield 15, 3) := by decide +kernel
theorem dX2_put_18 : decode cX2_put 18 = .ok (.iload_n 1, 1) := by decide +kernel
theorem dX2_put_19 : decode cX2_put 19 = .ok (.iastore, 1) := by decide +kernel
theorem dX2_put_20 : decode cX2_put 20 = .ok (.aload_n 0, 1) := by decide +kernel
theorem dX2_put_21 : decode cX2_put 21 = .ok (.dup, 1) := by decide +kernel
theorem dX2_put_22 : decode cX2_put 22 = .ok (.getfield 15, 3) := by decide +kernel
theorem dX2_put_25 : decode cX2_put 25 = .ok (.iconst 1, 1) := by decide +kernel
theorem dX2_put_26 : decode cX2_put 26 = .ok (.iadd, 1) := by decide +kernel
theorem dX2_put_27 : decode cX2_put 27 = .ok (.putfield 15, 3) := by decide +kernel
theorem dX2_put_30 : decode cX2_put 30 = .ok (.return_, 1) := by decide +kernel
theorem dX2_get_0 : decode cX2_get 0 = .ok (.iload_n 1, 1) := by decide +kernel
theorem dX2_get_1 : decode cX2_get 1 = .ok (.ifCond .lt 27, 3) := by decide +kernel
theorem dX2_get_4 : decode cX2_get 4 = .ok (.iload_n 1, 1) := by decide +kernel
theorem dX2_get_5 : decode cX2_get 5 = .ok (.aload_n 0, 1) := by decide +kernel
theorem dX2_get_6 : decode cX2_get 6 = .ok (.getfield 15, 3) := by decide +kernel
theorem dX2_get_9 : decode cX2_get 9 = .ok (.if_icmp .ge 19, 3) := by decide +kernel
theorem dX2_get_12 : decode cX2_get 12 = .ok (.iload_n 1, 1) := by decide +kernel
theorem dX2_get_13 : decode cX2_get 13 = .ok (.sipush 4000, 3) := by decide +kernel
theorem dX2_get_16 : decode cX2_get 16 = .ok (.if_icmp .ge 12, 3) := by decide +kernel
theorem dX2_get_19 : decode cX2_get 19 = .ok (.aload_n 0, 1) := by decide +kernel
theorem dX2_get_20 : decode cX2_get 20 = .ok (.getfield 9, 3) := by decide +kernel
theorem dX2_get_23 : decode cX2_get 23 = .ok (.iload_n 1, 1) := by decide +kernel
theorem dX2_get_24 : decode cX2_get 24 = .ok (.iaload, 1) := by decide +kernel
theorem dX2_get_25 : decode cX2_get 25 = .ok (.goto 4, 3) := by decide +kernel
theorem dX2_get_28 : decode cX2_get 28 = .ok (.iconst (-1), 1) := by decide +kernel
theorem dX2_get_29 : decode cX2_get 29 = .ok (.ireturn, 1) := by decide +kernel
theorem dX3_init_0 : decode cX3_init 0 = .ok (.aload_n 0, 1) := by decide +kernel
theorem dX3_init_1 : decode cX3_init 1 = .ok (.invokespecial 3, 3) := by decide +kernel
theorem dX3_init_4 : decode cX3_init 4 = .ok (.aload_n 0, 1) := by decide +kernel
theorem dX3_init_5 : decode cX3_init 5 = .ok (.new 9, 3) := by decide +kernel
theorem dX3_init_8 : decode cX3_init 8 = .ok (.dup, 1) := by decide +kernel
theorem dX3_init_9 : decode cX3_init 9 = .ok (.invokespecial 11, 3) := by decide +kernel
theorem dX3_init_12 : decode cX3_init 12 = .ok (.putfield 12, 3) := by decide +kernel
theorem dX3_init_15 : decode cX3_init 15 = .ok (.aload_n 0, 1) := by decide +kernel
theorem dX3_init_16 : decode cX3_init 16 = .ok (.aload_n 1, 1) := by decide +kernel
theorem dX3_init_17 : decode cX3_init 17 = .ok (.putfield 18, 3) := by decide +kernel
theorem dX3_init_20 : decode cX3_init 20 = .ok (.return_, 1) := by decide +kernel
theorem dX3_run_0 : decode cX3_run 0 = .ok (.aload_n 0, 1) := by decide +kernel
theorem dX3_run_1 : decode cX3_run 1 = .ok (.aload_n 1, 1) := by decide +kernel
theorem dX3_run_2 : decode cX3_run 2 = .ok (.putfield 22, 3) := by decide +kernel
theorem dX3_run_5 : decode cX3_run 5 = .ok (.aload_n 0, 1) := by decide +kernel
theorem dX3_run_6 : decode cX3_run 6 = .ok (.aload_n 2, 1) := by decide +kernel
theorem dX3_run_7 : decode cX3_run 7 = .ok (.putfield 26, 3) := by decide +kernel
theorem dX3_run_10 : decode cX3_run 10 = .ok (.aload_n 0, 1) := by decide +kernel
theorem dX3_run_11 : decode cX3_run 11 = .ok (.iconst 0, 1) := by decide +kernel
theorem dX3_run_12 : decode cX3_run 12 = .ok (.putfield 30, 3) := by decide +kernel
theorem dX3_run_15 : decode cX3_run 15 = .ok (.aload_n 0, 1) := by decide +kernel
theorem dX3_run_16 : decode cX3_run 16 = .ok (.iconst 0, 1) := by decide +kernel
theorem dX3_run_17 : decode cX3_run 17 = .ok (.putfield 34, 3) := by decide +kernel
theorem dX3_run_20 : decode cX3_run 20 = .ok (.aload_n 0, 1) := by decide +kernel
theorem dX3_run_21 : decode cX3_run 21 = .ok (.invokevirtual 38, 3) := by decide +kernel
theorem dX3_run_24 : decode cX3_run 24 = .ok (.aload_n 0, 1) := by decide +kernel
theorem dX3_run_25 : decode cX3_run 25 = .ok (.invokevirtual 41, 3) := by decide +kernel
theorem dX3_run_28 : decode cX3_run 28 = .ok (.ifCond .eq 14, 3) := by decide +kernel
theorem dX3_run_31 : decode cX3_run 31 = .ok (.aload_n 0, 1) := by decide +kernel
theorem dX3_run_32 : decode cX3_run 32 = .ok (.invokevirtual 45, 3) := by decide +kernel
theorem dX3_run_35 : decode cX3_run 35 = .ok (.ifCond .eq 7, 3) := by decide +kernel
theorem dX3_run_38 : decode cX3_run 38 = .ok (.iconst 1, 1) := by decide +kernel
theorem dX3_run_39 : decode cX3_run 39 = .ok (.goto 4, 3) := by decide +kernel
theorem dX3_run_42 : decode cX3_run 42 = .ok (.iconst 0, 1) := by decide +kernel
theorem dX3_run_43 : decode cX3_run 43 = .ok (.istore_n 3, 1) := by decide +kernel
theorem dX3_run_44 : decode cX3_run 44 = .ok (.iconst 0, 1) := by decide +kernel
theorem dX3_run_45 : decode cX3_run 45 = .ok (.istore 4, 2) := by decide +kernel
theorem dX3_run_47 : decode cX3_run 47 = .ok (.iload 4, 2) := by decide +kernel
theorem dX3_run_49 : decode cX3_run 49 = .ok (.sipush 4000, 3) := by decide +kernel
theorem dX3_run_52 : decode cX3_run 52 = .ok (.if_icmp .ge 47, 3) := by decide +kernel
theorem dX3_run_55 : decode cX3_run 55 = .ok (.iload_n 3, 1) := by decide +kernel
theorem dX3_run_56 : decode cX3_run 56 = .ok (.ifCond .eq 43, 3) := by decide +kernel
theorem dX3_run_59 : decode cX3_run 59 = .ok (.aload_n 0, 1) := by decide +kernel
theorem dX3_run_60 : decode cX3_run 60 = .ok (.getfield 30, 3) := by decide +kernel
theorem dX3_run_63 : decode cX3_run 63 = .ok (.aload_n 0, 1) := by decide +kernel
theorem dX3_run_64 : decode cX3_run 64 = .ok (.getfield 22, 3) := by decide +kernel
theorem dX3_run_67 : decode cX3_run 67 = .ok (.getfield 48, 3) := by decide +kernel
theorem dX3_run_70 : decode cX3_run 70 = .ok (.if_icmp .ge 29, 3) := by decide +kernel
theorem dX3_run_73 : decode cX3_run 73 = .ok (.aload_n 0, 1) := by decide +kernel
theorem dX3_run_74 : decode cX3_run 74 = .ok (.invokevirtual 53, 3) := by decide +kernel
theorem dX3_run_77 : decode cX3_run 77 = .ok (.ifCond .eq 14, 3) := by decide +kernel
theorem dX3_run_80 : decode cX3_run 80 = .ok (.aload_n 0, 1) := by decide +kernel
theorem dX3_run_81 : decode cX3_run 81 = .ok (.invokevirtual 45, 3) := by decide +kernel
theorem dX3_run_84 : decode cX3_run 84 = .ok (.ifCond .eq 7, 3) := by decide +kernel
theorem dX3_run_87 : decode cX3_run 87 = .ok (.iconst 1, 1) := by decide +kernel
theorem dX3_run_88 : decode cX3_run 88 = .ok (.goto 4, 3) := by decide +kernel
theorem dX3_run_91 : decode cX3_run 91 = .ok (.iconst 0, 1) := by decide +kernel
theorem dX3_run_92 : decode cX3_run 92 = .ok (.istore_n 3, 1) := by decide +kernel
theorem dX3_run_93 : decode cX3_run 93 = .ok (.iinc 4 1, 3) := by decide +kernel
theorem dX3_run_96 : decode cX3_run 96 = .ok (.goto (-49), 3) := by decide +kernel
theorem dX3_run_99 : decode cX3_run 99 = .ok (.iload_n 3, 1) := by decide +kernel
theorem dX3_run_100 : decode cX3_run 100 = .ok (.ifCond .eq 20, 3) := by decide +kernel
theorem dX3_run_103 : decode cX3_run 103 = .ok (.aload_n 0, 1) := by decide +kernel
theorem dX3_run_104 : decode cX3_run 104 = .ok (.getfield 34, 3) := by decide +kernel
theorem dX3_run_107 : decode cX3_run 107 = .ok (.ifCond .ne 13, 3) := by decide +kernel
theorem dX3_run_110 : decode cX3_run 110 = .ok (.aload_n 0, 1) := by decide +kernel
theorem dX3_run_111 : decode cX3_run 111 = .ok (.getfield 26, 3) := by decide +kernel
theorem dX3_run_114 : decode cX3_run 114 = .ok (.getfield 56, 3) := by decide +kernel
theorem dX3_run_117 : decode cX3_run 117 = .ok (.goto 10, 3) := by decide +kernel
theorem dX3_run_120 : decode cX3_run 120 = .ok (.bipush (-10), 2) := by decide +kernel
theorem dX3_run_122 : decode cX3_run 122 = .ok (.aload_n 0, 1) := by decide +kernel
theorem dX3_run_123 : decode cX3_run 123 = .ok (.getfield 30, 3) := by decide +kernel
theorem dX3_run_126 : decode cX3_run 126 = .ok (.isub, 1) := by decide +kernel
theorem dX3_run_127 : decode cX3_run 127 = .ok (.ireturn, 1) := by decide +kernel
theorem dX3_peek_0 : decode cX3_peek 0 = .ok (.aload_n 0, 1) := by decide +kernel
theorem dX3_peek_1 : decode cX3_peek 1 = .ok (.getfield 22, 3) := by decide +kernel
theorem dX3_peek_4 : decode cX3_peek 4 = .ok (.aload_n 0, 1) := by decide +kernel
theorem dX3_peek_5 : decode cX3_peek 5 = .ok (.getfield 30, 3) := by decide +kernel
theorem dX3_peek_8 : decode cX3_peek 8 = .ok (.invokevirtual 61, 3) := by decide +kernel
theorem dX3_peek_11 : decode cX3_peek 11 = .ok (.ireturn, 1) := by decide +kernel
theorem dX3_sees_0 : decode cX3_sees 0 = .ok (.aload_n 0, 1) := by decide +kernel
theorem dX3_sees_1 : decode cX3_sees 1 = .ok (.getfield 22, 3) := by decide +kernel
theorem dX3_sees_4 : decode cX3_sees 4 = .ok (.aload_n 0, 1) := by decide +kernel
theorem dX3_sees_5 : decode cX3_sees 5 = .ok (.getfield 30, 3) := by decide +kernel
theorem dX3_sees_8 : decode cX3_sees 8 = .ok (.invokevirtual 61, 3) := by decide +kernel
theorem dX3_sees_11 : decode cX3_sees 11 = .ok (.iload_n 1, 1) := by decide +kernel
theorem dX3_sees_12 : decode cX3_sees 12 = .ok (.if_icmp .ne 24, 3) := by decide +kernel
theorem dX3_sees_15 : decode cX3_sees 15 = .ok (.aload_n 0, 1) := by decide +kernel
theorem dX3_sees_16 : decode cX3_sees 16 = .ok (.getfield 22, 3) := by decide +kernel
theorem dX3_sees_19 : decode cX3_sees 19 = .ok (.aload_n 0, 1) := by decide +kernel
theorem dX3_sees_20 : decode cX3_sees 20 = .ok (.getfield 30, 3) := by decide +kernel
theorem dX3_sees_23 : decode cX3_sees 23 = .ok (.iconst 1, 1) := by decide +kernel
theorem dX3_sees_24 : decode cX3_sees 24 = .ok (.iadd, 1) := by decide +kernel
theorem dX3_sees_25 : decode cX3_sees 25 = .ok (.invokevirtual 61, 3) := by decide +kernel
theorem dX3_sees_28 : decode cX3_sees 28 = .ok (.iload_n 2, 1) := by decide +kernel
theorem dX3_sees_29 : decode cX3_sees 29 = .ok (.if_icmp .ne 7, 3) := by decide +kernel
theorem dX3_sees_32 : decode cX3_sees 32 = .ok (.iconst 1, 1) := by decide +kernel
theorem dX3_sees_33 : decode cX3_sees 33 = .ok (.goto 4, 3) := by decide +kernel
theorem dX3_sees_36 : decode cX3_sees 36 = .ok (.iconst 0, 1) := by decide +kernel
theorem dX3_sees_37 : decode cX3_sees 37 = .ok (.ireturn, 1) := by decide +kernel
theorem dX3_readHand_0 : decode cX3_readHand 0 = .ok (.aload_n 0, 1) := by decide +kernel
theorem dX3_readHand_1 : decode cX3_readHand 1 = .ok (.bipush 40, 2) := by decide +kernel
theorem dX3_readHand_3 : decode cX3_readHand 3 = .ok (.bipush 28, 2) := by decide +kernel
theorem dX3_readHand_5 : decode cX3_readHand 5 = .ok (.invokevirtual 65, 3) := by decide +kernel
theorem dX3_readHand_8 : decode cX3_readHand 8 = .ok (.ifCond .ne 14, 3) := by decide +kernel
theorem dX3_readHand_11 : decode cX3_readHand 11 = .ok (.aload_n 0, 1) := by decide +kernel
theorem dX3_readHand_12 : decode cX3_readHand 12 = .ok (.bipush 56, 2) := by decide +kernel
theorem dX3_readHand_14 : decode cX3_readHand 14 = .ok (.bipush 28, 2) := by decide +kernel
theorem dX3_readHand_16 : decode cX3_readHand 16 = .ok (.invokevirtual 65, 3) := by decide +kernel
theorem dX3_readHand_19 : decode cX3_readHand 19 = .ok (.ifCond .eq 34, 3) := by decide +kernel
theorem dX3_readHand_22 : decode cX3_readHand 22 = .ok (.aload_n 0, 1) := by decide +kernel
theorem dX3_readHand_23 : decode cX3_readHand 23 = .ok (.getfield 26, 3) := by decide +kernel
theorem dX3_readHand_26 : decode cX3_readHand 26 = .ok (.aload_n 0, 1) := by decide +kernel
theorem dX3_readHand_27 : decode cX3_readHand 27 = .ok (.invokevirtual 69, 3) := by decide +kernel
theorem dX3_readHand_30 : decode cX3_readHand 30 = .ok (.bipush 56, 2) := by decide +kernel
theorem dX3_readHand_32 : decode cX3_readHand 32 = .ok (.if_icmp .ne 7, 3) := by decide +kernel
theorem dX3_readHand_35 : decode cX3_readHand 35 = .ok (.iconst 2, 1) := by decide +kernel
theorem dX3_readHand_36 : decode cX3_readHand 36 = .ok (.goto 4, 3) := by decide +kernel
theorem dX3_readHand_39 : decode cX3_readHand 39 = .ok (.iconst 1, 1) := by decide +kernel
theorem dX3_readHand_40 : decode cX3_readHand 40 = .ok (.putfield 73, 3) := by decide +kernel
theorem dX3_readHand_43 : decode cX3_readHand 43 = .ok (.aload_n 0, 1) := by decide +kernel
theorem dX3_readHand_44 : decode cX3_readHand 44 = .ok (.dup, 1) := by decide +kernel
theorem dX3_readHand_45 : decode cX3_readHand 45 = .ok (.getfield 30, 3) := by decide +kernel
theorem dX3_readHand_48 : decode cX3_readHand 48 = .ok (.iconst 2, 1) := by decide +kernel
theorem dX3_readHand_49 : decode cX3_readHand 49 = .ok (.iadd, 1) := by decide +kernel
theorem dX3_readHand_50 : decode cX3_readHand 50 = .ok (.putfield 30, 3) := by decide +kernel
theorem dX3_readHand_53 : decode cX3_readHand 53 = .ok (.return_, 1) := by decide +kernel
theorem dX3_beginNext_0 : decode cX3_beginNext 0 = .ok (.aload_n 0, 1) := by decide +kernel
theorem dX3_beginNext_1 : decode cX3_beginNext 1 = .ok (.invokevirtual 69, 3) := by decide +kernel
theorem dX3_beginNext_4 : decode cX3_beginNext 4 = .ok (.istore_n 1, 1) := by decide +kernel
theorem dX3_beginNext_5 : decode cX3_beginNext 5 = .ok (.iload_n 1, 1) := by decide +kernel
theorem dX3_beginNext_6 : decode cX3_beginNext 6 = .ok (.ifCond .eq 9, 3) := by decide +kernel
theorem dX3_beginNext_9 : decode cX3_beginNext 9 = .ok (.iload_n 1, 1) := by decide +kernel
theorem dX3_beginNext_10 : decode cX3_beginNext 10 = .ok (.bipush 64, 2) := by decide +kernel
theorem dX3_beginNext_12 : decode cX3_beginNext 12 = .ok (.if_icmp .ne 31, 3) := by decide +kernel
theorem dX3_beginNext_15 : decode cX3_beginNext 15 = .ok (.aload_n 0, 1) := by decide +kernel
theorem dX3_beginNext_16 : decode cX3_beginNext 16 = .ok (.dup, 1) := by decide +kernel
theorem dX3_beginNext_17 : decode cX3_beginNext 17 = .ok (.getfield 30, 3) := by decide +kernel
theorem dX3_beginNext_20 : decode cX3_beginNext 20 = .ok (.iconst 1, 1) := by decide +kernel
theorem dX3_beginNext_21 : decode cX3_beginNext 21 = .ok (.iadd, 1) := by decide +kernel
theorem dX3_beginNext_22 : decode cX3_beginNext 22 = .ok (.putfield 30, 3) := by decide +kernel
theorem dX3_beginNext_25 : decode cX3_beginNext 25 = .ok (.iload_n 1, 1) := by decide +kernel
theorem dX3_beginNext_26 : decode cX3_beginNext 26 = .ok (.bipush 64, 2) := by decide +kernel
theorem dX3_beginNext_28 : decode cX3_beginNext 28 = .ok (.if_icmp .ne 10, 3) := by decide +kernel
theorem dX3_beginNext_31 : decode cX3_beginNext 31 = .ok (.aload_n 0, 1) := by decide +kernel
theorem dX3_beginNext_32 : decode cX3_beginNext 32 = .ok (.getfield 12, 3) := by decide +kernel
theorem dX3_beginNext_35 : decode cX3_beginNext 35 = .ok (.invokevirtual 76, 3) := by decide +kernel
theorem dX3_beginNext_38 : decode cX3_beginNext 38 = .ok (.aload_n 0, 1) := by decide +kernel
theorem dX3_beginNext_39 : decode cX3_beginNext 39 = .ok (.invokevirtual 41, 3) := by decide +kernel
theorem dX3_beginNext_42 : decode cX3_beginNext 42 = .ok (.ireturn, 1) := by decide +kernel
theorem dX3_beginNext_43 : decode cX3_beginNext 43 = .ok (.aload_n 0, 1) := by decide +kernel
theorem dX3_beginNext_44 : decode cX3_beginNext 44 = .ok (.getfield 26, 3) := by decide +kernel
theorem dX3_beginNext_47 : decode cX3_beginNext 47 = .ok (.invokevirtual 79, 3) := by decide +kernel
theorem dX3_beginNext_50 : decode cX3_beginNext 50 = .ok (.ifCond .lt 14, 3) := by decide +kernel
theorem dX3_beginNext_53 : decode cX3_beginNext 53 = .ok (.aload_n 0, 1) := by decide +kernel
theorem dX3_beginNext_54 : decode cX3_beginNext 54 = .ok (.bipush 35, 2) := by decide +kernel
theorem dX3_beginNext_56 : decode cX3_beginNext 56 = .ok (.bipush 28, 2) := by decide +kernel
theorem dX3_beginNext_58 : decode cX3_beginNext 58 = .ok (.invokevirtual 65, 3) := by decide +kernel
theorem dX3_beginNext_61 : decode cX3_beginNext 61 = .ok (.ifCond .ne 5, 3) := by decide +kernel
theorem dX3_beginNext_64 : decode cX3_beginNext 64 = .ok (.iconst 0, 1) := by decide +kernel
theorem dX3_beginNext_65 : decode cX3_beginNext 65 = .ok (.ireturn, 1) := by decide +kernel
theorem dX3_beginNext_66 : decode cX3_beginNext 66 = .ok (.aload_n 0, 1) := by decide +kernel
theorem dX3_beginNext_67 : decode cX3_beginNext 67 = .ok (.dup, 1) := by decide +kernel
theorem dX3_beginNext_68 : decode cX3_beginNext 68 = .ok (.getfield 30, 3) := by decide +kernel
theorem dX3_beginNext_71 : decode cX3_beginNext 71 = .ok (.iconst 2, 1) := by decide +kernel
theorem dX3_beginNext_72 : decode cX3_beginNext 72 = .ok (.iadd, 1) := by decide +kernel
theorem dX3_beginNext_73 : decode cX3_beginNext 73 = .ok (.putfield 30, 3) := by decide +kernel
theorem dX3_beginNext_76 : decode cX3_beginNext 76 = .ok (.aload_n 0, 1) := by decide +kernel
theorem dX3_beginNext_77 : decode cX3_beginNext 77 = .ok (.getfield 12, 3) := by decide +kernel
theorem dX3_beginNext_80 : decode cX3_beginNext 80 = .ok (.invokevirtual 76, 3) := by decide +kernel
theorem dX3_beginNext_83 : decode cX3_beginNext 83 = .ok (.aload_n 0, 1) := by decide +kernel
theorem dX3_beginNext_84 : decode cX3_beginNext 84 = .ok (.getfield 26, 3) := by decide +kernel
theorem dX3_beginNext_87 : decode cX3_beginNext 87 = .ok (.invokevirtual 82, 3) := by decide +kernel
theorem dX3_beginNext_90 : decode cX3_beginNext 90 = .ok (.ireturn, 1) := by decide +kernel
theorem dX3_beginBar_0 : decode cX3_beginBar 0 = .ok (.aload_n 0, 1) := by decide +kernel
theorem dX3_beginBar_1 : decode cX3_beginBar 1 = .ok (.getfield 12, 3) := by decide +kernel
theorem dX3_beginBar_4 : decode cX3_beginBar 4 = .ok (.aload_n 0, 1) := by decide +kernel
theorem dX3_beginBar_5 : decode cX3_beginBar 5 = .ok (.getfield 26, 3) := by decide +kernel
theorem dX3_beginBar_8 : decode cX3_beginBar 8 = .ok (.aload_n 0, 1) := by decide +kernel
theorem dX3_beginBar_9 : decode cX3_beginBar 9 = .ok (.getfield 26, 3) := by decide +kernel
theorem dX3_beginBar_12 : decode cX3_beginBar 12 = .ok (.getfield 56, 3) := by decide +kernel
theorem dX3_beginBar_15 : decode cX3_beginBar 15 = .ok (.invokevirtual 85, 3) := by decide +kernel
theorem dX3_beginBar_18 : decode cX3_beginBar 18 = .ok (.aload_n 0, 1) := by decide +kernel
theorem dX3_beginBar_19 : decode cX3_beginBar 19 = .ok (.invokevirtual 69, 3) := by decide +kernel
theorem dX3_beginBar_22 : decode cX3_beginBar 22 = .ok (.bipush 54, 2) := by decide +kernel
theorem dX3_beginBar_24 : decode cX3_beginBar 24 = .ok (.if_icmp .ne 7, 3) := by decide +kernel
theorem dX3_beginBar_27 : decode cX3_beginBar 27 = .ok (.iconst 1, 1) := by decide +kernel
theorem dX3_beginBar_28 : decode cX3_beginBar 28 = .ok (.goto 4, 3) := by decide +kernel
theorem dX3_beginBar_31 : decode cX3_beginBar 31 = .ok (.iconst 0, 1) := by decide +kernel
theorem dX3_beginBar_32 : decode cX3_beginBar 32 = .ok (.istore_n 1, 1) := by decide +kernel
theorem dX3_beginBar_33 : decode cX3_beginBar 33 = .ok (.iload_n 1, 1) := by decide +kernel
theorem dX3_beginBar_34 : decode cX3_beginBar 34 = .ok (.ifCond .eq 22, 3) := by decide +kernel
theorem dX3_beginBar_37 : decode cX3_beginBar 37 = .ok (.aload_n 0, 1) := by decide +kernel
theorem dX3_beginBar_38 : decode cX3_beginBar 38 = .ok (.getfield 26, 3) := by decide +kernel
theorem dX3_beginBar_41 : decode cX3_beginBar 41 = .ok (.getfield 56, 3) := by decide +kernel
theorem dX3_beginBar_44 : decode cX3_beginBar 44 = .ok (.ifCond .eq 10, 3) := by decide +kernel
theorem dX3_beginBar_47 : decode cX3_beginBar 47 = .ok (.aload_n 0, 1) := by decide +kernel
theorem dX3_beginBar_48 : decode cX3_beginBar 48 = .ok (.getfield 34, 3) := by decide +kernel
theorem dX3_beginBar_51 : decode cX3_beginBar 51 = .ok (.ifCond .eq 5, 3) := by decide +kernel
theorem dX3_beginBar_54 : decode cX3_beginBar 54 = .ok (.iconst 0, 1) := by decide +kernel
theorem dX3_beginBar_55 : decode cX3_beginBar 55 = .ok (.ireturn, 1) := by decide +kernel
theorem dX3_beginBar_56 : decode cX3_beginBar 56 = .ok (.aload_n 0, 1) := by decide +kernel
theorem dX3_beginBar_57 : decode cX3_beginBar 57 = .ok (.getfield 26, 3) := by decide +kernel
theorem dX3_beginBar_60 : decode cX3_beginBar 60 = .ok (.iload_n 1, 1) := by decide +kernel
theorem dX3_beginBar_61 : decode cX3_beginBar 61 = .ok (.invokevirtual 89, 3) := by decide +kernel
theorem dX3_beginBar_64 : decode cX3_beginBar 64 = .ok (.ifCond .ne 5, 3) := by decide +kernel
theorem dX3_beginBar_67 : decode cX3_beginBar 67 = .ok (.iconst 0, 1) := by decide +kernel
theorem dX3_beginBar_68 : decode cX3_beginBar 68 = .ok (.ireturn, 1) := by decide +kernel
theorem dX3_beginBar_69 : decode cX3_beginBar 69 = .ok (.aload_n 0, 1) := by decide +kernel
theorem dX3_beginBar_70 : decode cX3_beginBar 70 = .ok (.dup, 1) := by decide +kernel
theorem dX3_beginBar_71 : decode cX3_beginBar 71 = .ok (.getfield 30, 3) := by decide +kernel
theorem dX3_beginBar_74 : decode cX3_beginBar 74 = .ok (.iload_n 1, 1) := by decide +kernel
theorem dX3_beginBar_75 : decode cX3_beginBar 75 = .ok (.ifCond .eq 7, 3) := by decide +kernel
theorem dX3_beginBar_78 : decode cX3_beginBar 78 = .ok (.iconst 1, 1) := by decide +kernel
theorem dX3_beginBar_79 : decode cX3_beginBar 79 = .ok (.goto 4, 3) := by decide +kernel
theorem dX3_beginBar_82 : decode cX3_beginBar 82 = .ok (.iconst 0, 1) := by decide +kernel
theorem dX3_beginBar_83 : decode cX3_beginBar 83 = .ok (.iadd, 1) := by decide +kernel
theorem dX3_beginBar_84 : decode cX3_beginBar 84 = .ok (.putfield 30, 3) := by decide +kernel
theorem dX3_beginBar_87 : decode cX3_beginBar 87 = .ok (.iconst 1, 1) := by decide +kernel
theorem dX3_beginBar_88 : decode cX3_beginBar 88 = .ok (.ireturn, 1) := by decide +kernel
theorem dX3_readVoice_0 : decode cX3_readVoice 0 = .ok (.aload_n 0, 1) := by decide +kernel
theorem dX3_readVoice_1 : decode cX3_readVoice 1 = .ok (.getfield 26, 3) := by decide +kernel
theorem dX3_readVoice_4 : decode cX3_readVoice 4 = .ok (.invokevirtual 79, 3) := by decide +kernel
theorem dX3_readVoice_7 : decode cX3_readVoice 7 = .ok (.istore_n 1, 1) := by decide +kernel
theorem dX3_readVoice_8 : decode cX3_readVoice 8 = .ok (.iload_n 1, 1) := by decide +kernel
theorem dX3_readVoice_9 : decode cX3_readVoice 9 = .ok (.ifCond .ge 5, 3) := by decide +kernel
theorem dX3_readVoice_12 : decode cX3_readVoice 12 = .ok (.iconst 1, 1) := by decide +kernel
theorem dX3_readVoice_13 : decode cX3_readVoice 13 = .ok (.ireturn, 1) := by decide +kernel
theorem dX3_readVoice_14 : decode cX3_readVoice 14 = .ok (.aload_n 0, 1) := by decide +kernel
theorem dX3_readVoice_15 : decode cX3_readVoice 15 = .ok (.iconst (-1), 1) := by decide +kernel
theorem dX3_readVoice_16 : decode cX3_readVoice 16 = .ok (.putfield 93, 3) := by decide +kernel
theorem dX3_readVoice_19 : decode cX3_readVoice 19 = .ok (.aload_n 0, 1) := by decide +kernel
theorem dX3_readVoice_20 : decode cX3_readVoice 20 = .ok (.getfield 26, 3) := by decide +kernel
theorem dX3_readVoice_23 : decode cX3_readVoice 23 = .ok (.getfield 96, 3) := by decide +kernel
theorem dX3_readVoice_26 : decode cX3_readVoice 26 = .ok (.sipush 600, 3) := by decide +kernel
theorem dX3_readVoice_29 : decode cX3_readVoice 29 = .ok (.if_icmp .ge 14, 3) := by decide +kernel
theorem dX3_readVoice_32 : decode cX3_readVoice 32 = .ok (.aload_n 0, 1) := by decide +kernel
theorem dX3_readVoice_33 : decode cX3_readVoice 33 = .ok (.invokevirtual 99, 3) := by decide +kernel
theorem dX3_readVoice_36 : decode cX3_readVoice 36 = .ok (.ifCond .eq 7, 3) := by decide +kernel
theorem dX3_readVoice_39 : decode cX3_readVoice 39 = .ok (.iconst 1, 1) := by decide +kernel
theorem dX3_readVoice_40 : decode cX3_readVoice 40 = .ok (.goto 4, 3) := by decide +kernel
theorem dX3_readVoice_43 : decode cX3_readVoice 43 = .ok (.iconst 0, 1) := by decide +kernel
theorem dX3_readVoice_44 : decode cX3_readVoice 44 = .ok (.istore_n 2, 1) := by decide +kernel
theorem dX3_readVoice_45 : decode cX3_readVoice 45 = .ok (.iconst 1, 1) := by decide +kernel
theorem dX3_readVoice_46 : decode cX3_readVoice 46 = .ok (.istore_n 3, 1) := by decide +kernel
theorem dX3_readVoice_47 : decode cX3_readVoice 47 = .ok (.iload_n 3, 1) := by decide +kernel
theorem dX3_readVoice_48 : decode cX3_readVoice 48 = .ok (.bipush 40, 2) := by decide +kernel
theorem dX3_readVoice_50 : decode cX3_readVoice 50 = .ok (.if_icmp .gt 52, 3) := by decide +kernel
theorem dX3_readVoice_53 : decode cX3_readVoice 53 = .ok (.iload_n 2, 1) := by decide +kernel
theorem dX3_readVoice_54 : decode cX3_readVoice 54 = .ok (.ifCond .eq 48, 3) := by decide +kernel
theorem dX3_readVoice_57 : decode cX3_readVoice 57 = .ok (.aload_n 0, 1) := by decide +kernel
theorem dX3_readVoice_58 : decode cX3_readVoice 58 = .ok (.invokevirtual 102, 3) := by decide +kernel
theorem dX3_readVoice_61 : decode cX3_readVoice 61 = .ok (.ifCond .ne 41, 3) := by decide +kernel
theorem dX3_readVoice_64 : decode cX3_readVoice 64 = .ok (.iload_n 3, 1) := by decide +kernel
theorem dX3_readVoice_65 : decode cX3_readVoice 65 = .ok (.bipush 40, 2) := by decide +kernel
theorem dX3_readVoice_67 : decode cX3_readVoice 67 = .ok (.if_icmp .ge 27, 3) := by decide +kernel
theorem dX3_readVoice_70 : decode cX3_readVoice 70 = .ok (.aload_n 0, 1) := by decide +kernel
theorem dX3_readVoice_71 : decode cX3_readVoice 71 = .ok (.getfield 26, 3) := by decide +kernel
theorem dX3_readVoice_74 : decode cX3_readVoice 74 = .ok (.getfield 96, 3) := by decide +kernel
theorem dX3_readVoice_77 : decode cX3_readVoice 77 = .ok (.sipush 600, 3) := by decide +kernel
theorem dX3_readVoice_80 : decode cX3_readVoice 80 = .ok (.if_icmp .ge 14, 3) := by decide +kernel
theorem dX3_readVoice_83 : decode cX3_readVoice 83 = .ok (.aload_n 0, 1) := by decide +kernel
theorem dX3_readVoice_84 : decode cX3_readVoice 84 = .ok (.invokevirtual 99, 3) := by decide +kernel
theorem dX3_readVoice_87 : decode cX3_readVoice 87 = .ok (.ifCond .eq 7, 3) := by decide +kernel
theorem dX3_readVoice_90 : decode cX3_readVoice 90 = .ok (.iconst 1, 1) := by decide +kernel
theorem dX3_readVoice_91 : decode cX3_readVoice 91 = .ok (.goto 4, 3) := by decide +kernel
theorem dX3_readVoice_94 : decode cX3_readVoice 94 = .ok (.iconst 0, 1) := by decide +kernel
theorem dX3_readVoice_95 : decode cX3_readVoice 95 = .ok (.istore_n 2, 1) := by decide +kernel
theorem dX3_readVoice_96 : decode cX3_readVoice 96 = .ok (.iinc 3 1, 3) := by decide +kernel
theorem dX3_readVoice_99 : decode cX3_readVoice 99 = .ok (.goto (-52), 3) := by decide +kernel
theorem dX3_readVoice_102 : decode cX3_readVoice 102 = .ok (.iload_n 2, 1) := by decide +kernel
theorem dX3_readVoice_103 : decode cX3_readVoice 103 = .ok (.ifCond .eq 15, 3) := by decide +kernel
theorem dX3_readVoice_106 : decode cX3_readVoice 106 = .ok (.aload_n 0, 1) := by decide +kernel
theorem dX3_readVoice_107 : decode cX3_readVoice 107 = .ok (.iload_n 1, 1) := by decide +kernel
theorem dX3_readVoice_108 : decode cX3_readVoice 108 = .ok (.invokevirtual 105, 3) := by decide +kernel
theorem dX3_readVoice_111 : decode cX3_readVoice 111 = .ok (.ifCond .eq 7, 3) := by decide +kernel
theorem dX3_readVoice_114 : decode cX3_readVoice 114 = .ok (.iconst 1, 1) := by decide +kernel
theorem dX3_readVoice_115 : decode cX3_readVoice 115 = .ok (.goto 4, 3) := by decide +kernel
theorem dX3_readVoice_118 : decode cX3_readVoice 118 = .ok (.iconst 0, 1) := by decide +kernel
theorem dX3_readVoice_119 : decode cX3_readVoice 119 = .ok (.ireturn, 1) := by decide +kernel
theorem dX3_isAtVoiceEnd_0 : decode cX3_isAtVoiceEnd 0 = .ok (.aload_n 0, 1) := by decide +kernel
theorem dX3_isAtVoiceEnd_1 : decode cX3_isAtVoiceEnd 1 = .ok (.invokevirtual 69, 3) := by decide +kernel
theorem dX3_isAtVoiceEnd_4 : decode cX3_isAtVoiceEnd 4 = .ok (.istore_n 1, 1) := by decide +kernel
theorem dX3_isAtVoiceEnd_5 : decode cX3_isAtVoiceEnd 5 = .ok (.iload_n 1, 1) := by decide +kernel
theorem dX3_isAtVoiceEnd_6 : decode cX3_isAtVoiceEnd 6 = .ok (.ifCond .eq 25, 3) := by decide +kernel
theorem dX3_isAtVoiceEnd_9 : decode cX3_isAtVoiceEnd 9 = .ok (.iload_n 1, 1) := by decide +kernel
theorem dX3_isAtVoiceEnd_10 : decode cX3_isAtVoiceEnd 10 = .ok (.bipush 64, 2) := by decide +kernel
theorem dX3_isAtVoiceEnd_12 : decode cX3_isAtVoiceEnd 12 = .ok (.if_icmp .eq 19, 3) := by decide +kernel
theorem dX3_isAtVoiceEnd_15 : decode cX3_isAtVoiceEnd 15 = .ok (.iload_n 1, 1) := by decide +kernel
theorem dX3_isAtVoiceEnd_16 : decode cX3_isAtVoiceEnd 16 = .ok (.iconst (-1), 1) := by decide +kernel
theorem dX3_isAtVoiceEnd_17 : decode cX3_isAtVoiceEnd 17 = .ok (.if_icmp .eq 14, 3) := by decide +kernel
theorem dX3_isAtVoiceEnd_20 : decode cX3_isAtVoiceEnd 20 = .ok (.aload_n 0, 1) := by decide +kernel
theorem dX3_isAtVoiceEnd_21 : decode cX3_isAtVoiceEnd 21 = .ok (.bipush 35, 2) := by decide +kernel
theorem dX3_isAtVoiceEnd_23 : decode cX3_isAtVoiceEnd 23 = .ok (.bipush 28, 2) := by decide +kernel
theorem dX3_isAtVoiceEnd_25 : decode cX3_isAtVoiceEnd 25 = .ok (.invokevirtual 65, 3) := by decide +kernel
theorem dX3_isAtVoiceEnd_28 : decode cX3_isAtVoiceEnd 28 = .ok (.ifCond .eq 7, 3) := by decide +kernel
theorem dX3_isAtVoiceEnd_31 : decode cX3_isAtVoiceEnd 31 = .ok (.iconst 1, 1) := by decide +kernel
theorem dX3_isAtVoiceEnd_32 : decode cX3_isAtVoiceEnd 32 = .ok (.goto 4, 3) := by decide +kernel
theorem dX3_isAtVoiceEnd_35 : decode cX3_isAtVoiceEnd 35 = .ok (.iconst 0, 1) := by decide +kernel
theorem dX3_isAtVoiceEnd_36 : decode cX3_isAtVoiceEnd 36 = .ok (.ireturn, 1) := by decide +kernel
theorem dX3_endVoice_0 : decode cX3_endVoice 0 = .ok (.aload_n 0, 1) := by decide +kernel
theorem dX3_endVoice_1 : decode cX3_endVoice 1 = .ok (.getfield 34, 3) := by decide +kernel
theorem dX3_endVoice_4 : decode cX3_endVoice 4 = .ok (.ifCond .eq 26, 3) := by decide +kernel
theorem dX3_endVoice_7 : decode cX3_endVoice 7 = .ok (.aload_n 0, 1) := by decide +kernel
theorem dX3_endVoice_8 : decode cX3_endVoice 8 = .ok (.bipush 35, 2) := by decide +kernel
theorem dX3_endVoice_10 : decode cX3_endVoice 10 = .ok (.bipush 28, 2) := by decide +kernel
theorem dX3_endVoice_12 : decode cX3_endVoice 12 = .ok (.invokevirtual 65, 3) := by decide +kernel
theorem dX3_endVoice_15 : decode cX3_endVoice 15 = .ok (.ifCond .eq 15, 3) := by decide +kernel
theorem dX3_endVoice_18 : decode cX3_endVoice 18 = .ok (.aload_n 0, 1) := by decide +kernel
theorem dX3_endVoice_19 : decode cX3_endVoice 19 = .ok (.dup, 1) := by decide +kernel
theorem dX3_endVoice_20 : decode cX3_endVoice 20 = .ok (.getfield 30, 3) := by decide +kernel
theorem dX3_endVoice_23 : decode cX3_endVoice 23 = .ok (.iconst 1, 1) := by decide +kernel
theorem dX3_endVoice_24 : decode cX3_endVoice 24 = .ok (.iadd, 1) := by decide +kernel
theorem dX3_endVoice_25 : decode cX3_endVoice 25 = .ok (.putfield 30, 3) := by decide +kernel
theorem dX3_endVoice_28 : decode cX3_endVoice 28 = .ok (.iconst 0, 1) := by decide +kernel
theorem dX3_endVoice_29 : decode cX3_endVoice 29 = .ok (.ireturn, 1) := by decide +kernel
theorem dX3_endVoice_30 : decode cX3_endVoice 30 = .ok (.aload_n 0, 1) := by decide +kernel
theorem dX3_endVoice_31 : decode cX3_endVoice 31 = .ok (.getfield 26, 3) := by decide +kernel
theorem dX3_endVoice_34 : decode cX3_endVoice 34 = .ok (.getfield 109, 3) := by decide +kernel
theorem dX3_endVoice_37 : decode cX3_endVoice 37 = .ok (.iload_n 1, 1) := by decide +kernel
theorem dX3_endVoice_38 : decode cX3_endVoice 38 = .ok (.iaload, 1) := by decide +kernel
theorem dX3_endVoice_39 : decode cX3_endVoice 39 = .ok (.istore_n 2, 1) := by decide +kernel
theorem dX3_endVoice_40 : decode cX3_endVoice 40 = .ok (.aload_n 0, 1) := by decide +kernel
theorem dX3_endVoice_41 : decode cX3_endVoice 41 = .ok (.getfield 26, 3) := by decide +kernel
theorem dX3_endVoice_44 : decode cX3_endVoice 44 = .ok (.iload_n 1, 1) := by decide +kernel
theorem dX3_endVoice_45 : decode cX3_endVoice 45 = .ok (.invokevirtual 113, 3) := by decide +kernel
theorem dX3_endVoice_48 : decode cX3_endVoice 48 = .ok (.ifCond .eq 28, 3) := by decide +kernel
theorem dX3_endVoice_51 : decode cX3_endVoice 51 = .ok (.aload_n 0, 1) := by decide +kernel
theorem dX3_endVoice_52 : decode cX3_endVoice 52 = .ok (.getfield 26, 3) := by decide +kernel
theorem dX3_endVoice_55 : decode cX3_endVoice 55 = .ok (.getfield 116, 3) := by decide +kernel
theorem dX3_endVoice_58 : decode cX3_endVoice 58 = .ok (.iload_n 2, 1) := by decide +kernel
theorem dX3_endVoice_59 : decode cX3_endVoice 59 = .ok (.iaload, 1) := by decide +kernel
theorem dX3_endVoice_60 : decode cX3_endVoice 60 = .ok (.iconst (-1), 1) := by decide +kernel
theorem dX3_endVoice_61 : decode cX3_endVoice 61 = .ok (.if_icmp .ne 15, 3) := by decide +kernel
theorem dX3_endVoice_64 : decode cX3_endVoice 64 = .ok (.aload_n 0, 1) := by decide +kernel
theorem dX3_endVoice_65 : decode cX3_endVoice 65 = .ok (.getfield 26, 3) := by decide +kernel
theorem dX3_endVoice_68 : decode cX3_endVoice 68 = .ok (.getfield 116, 3) := by decide +kernel
theorem dX3_endVoice_71 : decode cX3_endVoice 71 = .ok (.iload_n 2, 1) := by decide +kernel
theorem dX3_endVoice_72 : decode cX3_endVoice 72 = .ok (.iconst 2, 1) := by decide +kernel
theorem dX3_endVoice_73 : decode cX3_endVoice 73 = .ok (.iastore, 1) := by decide +kernel
theorem dX3_endVoice_74 : decode cX3_endVoice 74 = .ok (.iconst 1, 1) := by decide +kernel
theorem dX3_endVoice_75 : decode cX3_endVoice 75 = .ok (.ireturn, 1) := by decide +kernel
theorem dX3_endVoice_76 : decode cX3_endVoice 76 = .ok (.iconst 0, 1) := by decide +kernel
theorem dX3_endVoice_77 : decode cX3_endVoice 77 = .ok (.istore_n 3, 1) := by decide +kernel
theorem dX3_endVoice_78 : decode cX3_endVoice 78 = .ok (.iload_n 3, 1) := by decide +kernel
theorem dX3_endVoice_79 : decode cX3_endVoice 79 = .ok (.aload_n 0, 1) := by decide +kernel
theorem dX3_endVoice_80 : decode cX3_endVoice 80 = .ok (.getfield 26, 3) := by decide +kernel
theorem dX3_endVoice_83 : decode cX3_endVoice 83 = .ok (.getfield 119, 3) := by decide +kernel
theorem dX3_endVoice_86 : decode cX3_endVoice 86 = .ok (.iload_n 1, 1) := by decide +kernel
theorem dX3_endVoice_87 : decode cX3_endVoice 87 = .ok (.iaload, 1) := by decide +kernel
theorem dX3_endVoice_88 : decode cX3_endVoice 88 = .ok (.if_icmp .ge 24, 3) := by decide +kernel
theorem dX3_endVoice_91 : decode cX3_endVoice 91 = .ok (.aload_n 0, 1) := by decide +kernel
theorem dX3_endVoice_92 : decode cX3_endVoice 92 = .ok (.getfield 26, 3) := by decide +kernel
theorem dX3_endVoice_95 : decode cX3_endVoice 95 = .ok (.getfield 116, 3) := by decide +kernel
theorem dX3_endVoice_98 : decode cX3_endVoice 98 = .ok (.iload_n 2, 1) := by decide +kernel
theorem dX3_endVoice_99 : decode cX3_endVoice 99 = .ok (.iload_n 3, 1) := by decide +kernel
theorem dX3_endVoice_100 : decode cX3_endVoice 100 = .ok (.iadd, 1) := by decide +kernel
theorem dX3_endVoice_101 : decode cX3_endVoice 101 = .ok (.iaload, 1) := by decide +kernel
theorem dX3_endVoice_102 : decode cX3_endVoice 102 = .ok (.iconst (-1), 1) := by decide +kernel
theorem dX3_endVoice_103 : decode cX3_endVoice 103 = .ok (.if_icmp .ne 9, 3) := by decide +kernel
theorem dX3_endVoice_106 : decode cX3_endVoice 106 = .ok (.iinc 3 1, 3) := by decide +kernel
theorem dX3_endVoice_109 : decode cX3_endVoice 109 = .ok (.goto (-31), 3) := by decide +kernel
theorem dX3_endVoice_112 : decode cX3_endVoice 112 = .ok (.aload_n 0, 1) := by decide +kernel
theorem dX3_endVoice_113 : decode cX3_endVoice 113 = .ok (.getfield 18, 3) := by decide +kernel
theorem dX3_endVoice_116 : decode cX3_endVoice 116 = .ok (.aload_n 0, 1) := by decide +kernel
theorem dX3_endVoice_117 : decode cX3_endVoice 117 = .ok (.getfield 26, 3) := by decide +kernel
theorem dX3_endVoice_120 : decode cX3_endVoice 120 = .ok (.iload_n 1, 1) := by decide +kernel
theorem dX3_endVoice_121 : decode cX3_endVoice 121 = .ok (.iload_n 3, 1) := by decide +kernel
theorem dX3_endVoice_122 : decode cX3_endVoice 122 = .ok (.invokevirtual 122, 3) := by decide +kernel
theorem dX3_endVoice_125 : decode cX3_endVoice 125 = .ok (.ifCond .ne 5, 3) := by decide +kernel
theorem dX3_endVoice_128 : decode cX3_endVoice 128 = .ok (.iconst 0, 1) := by decide +kernel
theorem dX3_endVoice_129 : decode cX3_endVoice 129 = .ok (.ireturn, 1) := by decide +kernel
theorem dX3_endVoice_130 : decode cX3_endVoice 130 = .ok (.aload_n 0, 1) := by decide +kernel
theorem dX3_endVoice_131 : decode cX3_endVoice 131 = .ok (.getfield 18, 3) := by decide +kernel
theorem dX3_endVoice_134 : decode cX3_endVoice 134 = .ok (.getfield 128, 3) := by decide +kernel
theorem dX3_endVoice_137 : decode cX3_endVoice 137 = .ok (.iconst 0, 1) := by decide +kernel
theorem dX3_endVoice_138 : decode cX3_endVoice 138 = .ok (.aload_n 0, 1) := by decide +kernel
theorem dX3_endVoice_139 : decode cX3_endVoice 139 = .ok (.getfield 26, 3) := by decide +kernel
theorem dX3_endVoice_142 : decode cX3_endVoice 142 = .ok (.getfield 116, 3) := by decide +kernel
theorem dX3_endVoice_145 : decode cX3_endVoice 145 = .ok (.iload_n 2, 1) := by decide +kernel
theorem dX3_endVoice_146 : decode cX3_endVoice 146 = .ok (.iload_n 3, 1) := by decide +kernel
theorem dX3_endVoice_147 : decode cX3_endVoice 147 = .ok (.invokestatic 131, 3) := by decide +kernel
theorem dX3_endVoice_150 : decode cX3_endVoice 150 = .ok (.iconst 1, 1) := by decide +kernel
theorem dX3_endVoice_151 : decode cX3_endVoice 151 = .ok (.ireturn, 1) := by decide +kernel
theorem dX3_readItem_0 : decode cX3_readItem 0 = .ok (.aload_n 0, 1) := by decide +kernel
theorem dX3_readItem_1 : decode cX3_readItem 1 = .ok (.invokevirtual 137, 3) := by decide +kernel
theorem dX3_readItem_4 : decode cX3_readItem 4 = .ok (.ifCond .eq 10, 3) := by decide +kernel
theorem dX3_readItem_7 : decode cX3_readItem 7 = .ok (.aload_n 0, 1) := by decide +kernel
theorem dX3_readItem_8 : decode cX3_readItem 8 = .ok (.invokevirtual 140, 3) := by decide +kernel
theorem dX3_readItem_11 : decode cX3_readItem 11 = .ok (.ifCond .ne 5, 3) := by decide +kernel
theorem dX3_readItem_14 : decode cX3_readItem 14 = .ok (.iconst 0, 1) := by decide +kernel
theorem dX3_readItem_15 : decode cX3_readItem 15 = .ok (.ireturn, 1) := by decide +kernel
theorem dX3_readItem_16 : decode cX3_readItem 16 = .ok (.getstatic 143, 3) := by decide +kernel
theorem dX3_readItem_19 : decode cX3_readItem 19 = .ok (.aload_n 0, 1) := by decide +kernel
theorem dX3_readItem_20 : decode cX3_readItem 20 = .ok (.invokevirtual 69, 3) := by decide +kernel
theorem dX3_readItem_23 : decode cX3_readItem 23 = .ok (.invokestatic 146, 3) := by decide +kernel
theorem dX3_readItem_26 : decode cX3_readItem 26 = .ok (.istore_n 1, 1) := by decide +kernel
theorem dX3_readItem_27 : decode cX3_readItem 27 = .ok (.iload_n 1, 1) := by decide +kernel
theorem dX3_readItem_28 : decode cX3_readItem 28 = .ok (.ifCond .lt 35, 3) := by decide +kernel
theorem dX3_readItem_31 : decode cX3_readItem 31 = .ok (.aload_n 0, 1) := by decide +kernel
theorem dX3_readItem_32 : decode cX3_readItem 32 = .ok (.dup, 1) := by decide +kernel
theorem dX3_readItem_33 : decode cX3_readItem 33 = .ok (.getfield 30, 3) := by decide +kernel
theorem dX3_readItem_36 : decode cX3_readItem 36 = .ok (.iconst 1, 1) := by decide +kernel
theorem dX3_readItem_37 : decode cX3_readItem 37 = .ok (.iadd, 1) := by decide +kernel
theorem dX3_readItem_38 : decode cX3_readItem 38 = .ok (.putfield 30, 3) := by decide +kernel
theorem dX3_readItem_41 : decode cX3_readItem 41 = .ok (.aload_n 0, 1) := by decide +kernel
theorem dX3_readItem_42 : decode cX3_readItem 42 = .ok (.getfield 26, 3) := by decide +kernel
theorem dX3_readItem_45 : decode cX3_readItem 45 = .ok (.iconst 0, 1) := by decide +kernel
theorem dX3_readItem_46 : decode cX3_readItem 46 = .ok (.iconst 0, 1) := by decide +kernel
theorem dX3_readItem_47 : decode cX3_readItem 47 = .ok (.iload_n 1, 1) := by decide +kernel
theorem dX3_readItem_48 : decode cX3_readItem 48 = .ok (.aload_n 0, 1) := by decide +kernel
theorem dX3_readItem_49 : decode cX3_readItem 49 = .ok (.getfield 93, 3) := by decide +kernel
theorem dX3_readItem_52 : decode cX3_readItem 52 = .ok (.aload_n 0, 1) := by decide +kernel
theorem dX3_readItem_53 : decode cX3_readItem 53 = .ok (.invokevirtual 150, 3) := by decide +kernel
theorem dX3_readItem_56 : decode cX3_readItem 56 = .ok (.invokevirtual 153, 3) := by decide +kernel
theorem dX3_readItem_59 : decode cX3_readItem 59 = .ok (.pop, 1) := by decide +kernel
theorem dX3_readItem_60 : decode cX3_readItem 60 = .ok (.goto 23, 3) := by decide +kernel
theorem dX3_readItem_63 : decode cX3_readItem 63 = .ok (.aload_n 0, 1) := by decide +kernel
theorem dX3_readItem_64 : decode cX3_readItem 64 = .ok (.invokevirtual 157, 3) := by decide +kernel
theorem dX3_readItem_67 : decode cX3_readItem 67 = .ok (.ifCond .eq 10, 3) := by decide +kernel
theorem dX3_readItem_70 : decode cX3_readItem 70 = .ok (.aload_n 0, 1) := by decide +kernel
theorem dX3_readItem_71 : decode cX3_readItem 71 = .ok (.invokevirtual 160, 3) := by decide +kernel
theorem dX3_readItem_74 : decode cX3_readItem 74 = .ok (.ifCond .ne 5, 3) := by decide +kernel
theorem dX3_readItem_77 : decode cX3_readItem 77 = .ok (.iconst 0, 1) := by decide +kernel
theorem dX3_readItem_78 : decode cX3_readItem 78 = .ok (.ireturn, 1) := by decide +kernel
theorem dX3_readItem_79 : decode cX3_readItem 79 = .ok (.aload_n 0, 1) := by decide +kernel
theorem dX3_readItem_80 : decode cX3_readItem 80 = .ok (.invokevirtual 163, 3) := by decide +kernel
theorem dX3_readItem_83 : decode cX3_readItem 83 = .ok (.aload_n 0, 1) := by decide +kernel
theorem dX3_readItem_84 : decode cX3_readItem 84 = .ok (.invokevirtual 166, 3) := by decide +kernel
theorem dX3_readItem_87 : decode cX3_readItem 87 = .ok (.iconst 1, 1) := by decide +kernel
theorem dX3_readItem_88 : decode cX3_readItem 88 = .ok (.ireturn, 1) := by decide +kernel
theorem dX3_readSizeSign_0 : decode cX3_readSizeSign 0 = .ok (.aload_n 0, 1) := by decide +kernel
theorem dX3_readSizeSign_1 : decode cX3_readSizeSign 1 = .ok (.invokevirtual 69, 3) := by decide +kernel
theorem dX3_readSizeSign_4 : decode cX3_readSizeSign 4 = .ok (.istore_n 1, 1) := by decide +kernel
theorem dX3_readSizeSign_5 : decode cX3_readSizeSign 5 = .ok (.iload_n 1, 1) := by decide +kernel
theorem dX3_readSizeSign_6 : decode cX3_readSizeSign 6 = .ok (.bipush 24, 2) := by decide +kernel
theorem dX3_readSizeSign_8 : decode cX3_readSizeSign 8 = .ok (.if_icmp .eq 9, 3) := by decide +kernel
theorem dX3_readSizeSign_11 : decode cX3_readSizeSign 11 = .ok (.iload_n 1, 1) := by decide +kernel
theorem dX3_readSizeSign_12 : decode cX3_readSizeSign 12 = .ok (.bipush 32, 2) := by decide +kernel
theorem dX3_readSizeSign_14 : decode cX3_readSizeSign 14 = .ok (.if_icmp .ne 21, 3) := by decide +kernel
theorem dX3_readSizeSign_17 : decode cX3_readSizeSign 17 = .ok (.aload_n 0, 1) := by decide +kernel
theorem dX3_readSizeSign_18 : decode cX3_readSizeSign 18 = .ok (.getfield 22, 3) := by decide +kernel
theorem dX3_readSizeSign_21 : decode cX3_readSizeSign 21 = .ok (.aload_n 0, 1) := by decide +kernel
theorem dX3_readSizeSign_22 : decode cX3_readSizeSign 22 = .ok (.getfield 30, 3) := by decide +kernel
theorem dX3_readSizeSign_25 : decode cX3_readSizeSign 25 = .ok (.iconst 1, 1) := by decide +kernel
theorem dX3_readSizeSign_26 : decode cX3_readSizeSign 26 = .ok (.iadd, 1) := by decide +kernel
theorem dX3_readSizeSign_27 : decode cX3_readSizeSign 27 = .ok (.invokevirtual 61, 3) := by decide +kernel
theorem dX3_readSizeSign_30 : decode cX3_readSizeSign 30 = .ok (.bipush 35, 2) := by decide +kernel
theorem dX3_readSizeSign_32 : decode cX3_readSizeSign 32 = .ok (.if_icmp .eq 5, 3) := by decide +kernel
theorem dX3_readSizeSign_35 : decode cX3_readSizeSign 35 = .ok (.iconst 1, 1) := by decide +kernel
theorem dX3_readSizeSign_36 : decode cX3_readSizeSign 36 = .ok (.ireturn, 1) := by decide +kernel
theorem dX3_readSizeSign_37 : decode cX3_readSizeSign 37 = .ok (.aload_n 0, 1) := by decide +kernel
theorem dX3_readSizeSign_38 : decode cX3_readSizeSign 38 = .ok (.dup, 1) := by decide +kernel
theorem dX3_readSizeSign_39 : decode cX3_readSizeSign 39 = .ok (.getfield 30, 3) := by decide +kernel
theorem dX3_readSizeSign_42 : decode cX3_readSizeSign 42 = .ok (.iconst 2, 1) := by decide +kernel
theorem dX3_readSizeSign_43 : decode cX3_readSizeSign 43 = .ok (.iadd, 1) := by decide +kernel
theorem dX3_readSizeSign_44 : decode cX3_readSizeSign 44 = .ok (.putfield 30, 3) := by decide +kernel
theorem dX3_readSizeSign_47 : decode cX3_readSizeSign 47 = .ok (.aload_n 0, 1) := by decide +kernel
theorem dX3_readSizeSign_48 : decode cX3_readSizeSign 48 = .ok (.invokevirtual 69, 3) := by decide +kernel
theorem dX3_readSizeSign_51 : decode cX3_readSizeSign 51 = .ok (.iconst 2, 1) := by decide +kernel
theorem dX3_readSizeSign_52 : decode cX3_readSizeSign 52 = .ok (.if_icmp .eq 5, 3) := by decide +kernel
theorem dX3_readSizeSign_55 : decode cX3_readSizeSign 55 = .ok (.iconst 0, 1) := by decide +kernel
theorem dX3_readSizeSign_56 : decode cX3_readSizeSign 56 = .ok (.ireturn, 1) := by decide +kernel
theorem dX3_readSizeSign_57 : decode cX3_readSizeSign 57 = .ok (.aload_n 0, 1) := by decide +kernel
theorem dX3_readSizeSign_58 : decode cX3_readSizeSign 58 = .ok (.dup, 1) := by decide +kernel
theorem dX3_readSizeSign_59 : decode cX3_readSizeSign 59 = .ok (.getfield 30, 3) := by decide +kernel
theorem dX3_readSizeSign_62 : decode cX3_readSizeSign 62 = .ok (.iconst 1, 1) := by decide +kernel
theorem dX3_readSizeSign_63 : decode cX3_readSizeSign 63 = .ok (.iadd, 1) := by decide +kernel
theorem dX3_readSizeSign_64 : decode cX3_readSizeSign 64 = .ok (.putfield 30, 3) := by decide +kernel
theorem dX3_readSizeSign_67 : decode cX3_readSizeSign 67 = .ok (.aload_n 0, 1) := by decide +kernel
theorem dX3_readSizeSign_68 : decode cX3_readSizeSign 68 = .ok (.iload_n 1, 1) := by decide +kernel
theorem dX3_readSizeSign_69 : decode cX3_readSizeSign 69 = .ok (.bipush 24, 2) := by decide +kernel
theorem dX3_readSizeSign_71 : decode cX3_readSizeSign 71 = .ok (.if_icmp .ne 7, 3) := by decide +kernel
theorem dX3_readSizeSign_74 : decode cX3_readSizeSign 74 = .ok (.iconst 0, 1) := by decide +kernel
theorem dX3_readSizeSign_75 : decode cX3_readSizeSign 75 = .ok (.goto 4, 3) := by decide +kernel
theorem dX3_readSizeSign_78 : decode cX3_readSizeSign 78 = .ok (.iconst 1, 1) := by decide +kernel
theorem dX3_readSizeSign_79 : decode cX3_readSizeSign 79 = .ok (.putfield 93, 3) := by decide +kernel
theorem dX3_readSizeSign_82 : decode cX3_readSizeSign 82 = .ok (.iconst 1, 1) := by decide +kernel
theorem dX3_readSizeSign_83 : decode cX3_readSizeSign 83 = .ok (.ireturn, 1) := by decide +kernel
theorem dX3_readOpen_0 : decode cX3_readOpen 0 = .ok (.aload_n 0, 1) := by decide +kernel
theorem dX3_readOpen_1 : decode cX3_readOpen 1 = .ok (.bipush 48, 2) := by decide +kernel
theorem dX3_readOpen_3 : decode cX3_readOpen 3 = .ok (.iconst 3, 1) := by decide +kernel
theorem dX3_readOpen_4 : decode cX3_readOpen 4 = .ok (.invokevirtual 65, 3) := by decide +kernel
theorem dX3_readOpen_7 : decode cX3_readOpen 7 = .ok (.ifCond .ne 5, 3) := by decide +kernel
theorem dX3_readOpen_10 : decode cX3_readOpen 10 = .ok (.iconst 1, 1) := by decide +kernel
theorem dX3_readOpen_11 : decode cX3_readOpen 11 = .ok (.ireturn, 1) := by decide +kernel
theorem dX3_readOpen_12 : decode cX3_readOpen 12 = .ok (.aload_n 0, 1) := by decide +kernel
theorem dX3_readOpen_13 : decode cX3_readOpen 13 = .ok (.getfield 34, 3) := by decide +kernel
theorem dX3_readOpen_16 : decode cX3_readOpen 16 = .ok (.ifCond .eq 15, 3) := by decide +kernel
theorem dX3_readOpen_19 : decode cX3_readOpen 19 = .ok (.aload_n 0, 1) := by decide +kernel
theorem dX3_readOpen_20 : decode cX3_readOpen 20 = .ok (.dup, 1) := by decide +kernel
theorem dX3_readOpen_21 : decode cX3_readOpen 21 = .ok (.getfield 30, 3) := by decide +kernel
theorem dX3_readOpen_24 : decode cX3_readOpen 24 = .ok (.iconst 1, 1) := by decide +kernel
theorem dX3_readOpen_25 : decode cX3_readOpen 25 = .ok (.iadd, 1) := by decide +kernel
theorem dX3_readOpen_26 : decode cX3_readOpen 26 = .ok (.putfield 30, 3) := by decide +kernel
theorem dX3_readOpen_29 : decode cX3_readOpen 29 = .ok (.iconst 0, 1) := by decide +kernel
theorem dX3_readOpen_30 : decode cX3_readOpen 30 = .ok (.ireturn, 1) := by decide +kernel
theorem dX3_readOpen_31 : decode cX3_readOpen 31 = .ok (.aload_n 0, 1) := by decide +kernel
theorem dX3_readOpen_32 : decode cX3_readOpen 32 = .ok (.iconst 1, 1) := by decide +kernel
theorem dX3_readOpen_33 : decode cX3_readOpen 33 = .ok (.putfield 34, 3) := by decide +kernel
theorem dX3_readOpen_36 : decode cX3_readOpen 36 = .ok (.aload_n 0, 1) := by decide +kernel
theorem dX3_readOpen_37 : decode cX3_readOpen 37 = .ok (.dup, 1) := by decide +kernel
theorem dX3_readOpen_38 : decode cX3_readOpen 38 = .ok (.getfield 30, 3) := by decide +kernel
theorem dX3_readOpen_41 : decode cX3_readOpen 41 = .ok (.iconst 2, 1) := by decide +kernel
theorem dX3_readOpen_42 : decode cX3_readOpen 42 = .ok (.iadd, 1) := by decide +kernel
theorem dX3_readOpen_43 : decode cX3_readOpen 43 = .ok (.putfield 30, 3) := by decide +kernel
theorem dX3_readOpen_46 : decode cX3_readOpen 46 = .ok (.iconst 1, 1) := by decide +kernel
theorem dX3_readOpen_47 : decode cX3_readOpen 47 = .ok (.ireturn, 1) := by decide +kernel
theorem dX3_readNote_0 : decode cX3_readNote 0 = .ok (.getstatic 169, 3) := by decide +kernel
theorem dX3_readNote_3 : decode cX3_readNote 3 = .ok (.aload_n 0, 1) := by decide +kernel
theorem dX3_readNote_4 : decode cX3_readNote 4 = .ok (.invokevirtual 69, 3) := by decide +kernel
theorem dX3_readNote_7 : decode cX3_readNote 7 = .ok (.invokestatic 146, 3) := by decide +kernel
theorem dX3_readNote_10 : decode cX3_readNote 10 = .ok (.iconst 1, 1) := by decide +kernel
theorem dX3_readNote_11 : decode cX3_readNote 11 = .ok (.iadd, 1) := by decide +kernel
theorem dX3_readNote_12 : decode cX3_readNote 12 = .ok (.istore_n 1, 1) := by decide +kernel
theorem dX3_readNote_13 : decode cX3_readNote 13 = .ok (.aload_n 0, 1) := by decide +kernel
theorem dX3_readNote_14 : decode cX3_readNote 14 = .ok (.dup, 1) := by decide +kernel
theorem dX3_readNote_15 : decode cX3_readNote 15 = .ok (.getfield 30, 3) := by decide +kernel
theorem dX3_readNote_18 : decode cX3_readNote 18 = .ok (.iload_n 1, 1) := by decide +kernel
theorem dX3_readNote_19 : decode cX3_readNote 19 = .ok (.ifCond .le 7, 3) := by decide +kernel
theorem dX3_readNote_22 : decode cX3_readNote 22 = .ok (.iconst 1, 1) := by decide +kernel
theorem dX3_readNote_23 : decode cX3_readNote 23 = .ok (.goto 4, 3) := by decide +kernel
theorem dX3_readNote_26 : decode cX3_readNote 26 = .ok (.iconst 0, 1) := by decide +kernel
theorem dX3_readNote_27 : decode cX3_readNote 27 = .ok (.iadd, 1) := by decide +kernel
theorem dX3_readNote_28 : decode cX3_readNote 28 = .ok (.putfield 30, 3) := by decide +kernel
theorem dX3_readNote_31 : decode cX3_readNote 31 = .ok (.getstatic 172, 3) := by decide +kernel
theorem dX3_readNote_34 : decode cX3_readNote 34 = .ok (.aload_n 0, 1) := by decide +kernel
theorem dX3_readNote_35 : decode cX3_readNote 35 = .ok (.invokevirtual 69, 3) := by decide +kernel
theorem dX3_readNote_38 : decode cX3_readNote 38 = .ok (.invokestatic 146, 3) := by decide +kernel
theorem dX3_readNote_41 : decode cX3_readNote 41 = .ok (.iconst 1, 1) := by decide +kernel
theorem dX3_readNote_42 : decode cX3_readNote 42 = .ok (.iadd, 1) := by decide +kernel
theorem dX3_readNote_43 : decode cX3_readNote 43 = .ok (.istore_n 2, 1) := by decide +kernel
theorem dX3_readNote_44 : decode cX3_readNote 44 = .ok (.aload_n 0, 1) := by decide +kernel
theorem dX3_readNote_45 : decode cX3_readNote 45 = .ok (.dup, 1) := by decide +kernel
theorem dX3_readNote_46 : decode cX3_readNote 46 = .ok (.getfield 30, 3) := by decide +kernel
theorem dX3_readNote_49 : decode cX3_readNote 49 = .ok (.iload_n 2, 1) := by decide +kernel
theorem dX3_readNote_50 : decode cX3_readNote 50 = .ok (.ifCond .le 7, 3) := by decide +kernel
theorem dX3_readNote_53 : decode cX3_readNote 53 = .ok (.iconst 1, 1) := by decide +kernel
theorem dX3_readNote_54 : decode cX3_readNote 54 = .ok (.goto 4, 3) := by decide +kernel
theorem dX3_readNote_57 : decode cX3_readNote 57 = .ok (.iconst 0, 1) := by decide +kernel
theorem dX3_readNote_58 : decode cX3_readNote 58 = .ok (.iadd, 1) := by decide +kernel
theorem dX3_readNote_59 : decode cX3_readNote 59 = .ok (.putfield 30, 3) := by decide +kernel
theorem dX3_readNote_62 : decode cX3_readNote 62 = .ok (.aload_n 0, 1) := by decide +kernel
theorem dX3_readNote_63 : decode cX3_readNote 63 = .ok (.invokevirtual 69, 3) := by decide +kernel
theorem dX3_readNote_66 : decode cX3_readNote 66 = .ok (.istore_n 3, 1) := by decide +kernel
theorem dX3_readNote_67 : decode cX3_readNote 67 = .ok (.iload_n 3, 1) := by decide +kernel
theorem dX3_readNote_68 : decode cX3_readNote 68 = .ok (.iconst (-1), 1) := by decide +kernel
theorem dX3_readNote_69 : decode cX3_readNote 69 = .ok (.if_icmp .ne 7, 3) := by decide +kernel
theorem dX3_readNote_72 : decode cX3_readNote 72 = .ok (.iconst (-1), 1) := by decide +kernel
theorem dX3_readNote_73 : decode cX3_readNote 73 = .ok (.goto 13, 3) := by decide +kernel
theorem dX3_readNote_76 : decode cX3_readNote 76 = .ok (.getstatic 175, 3) := by decide +kernel
theorem dX3_readNote_79 : decode cX3_readNote 79 = .ok (.iload_n 3, 1) := by decide +kernel
theorem dX3_readNote_80 : decode cX3_readNote 80 = .ok (.bipush 27, 2) := by decide +kernel
theorem dX3_readNote_82 : decode cX3_readNote 82 = .ok (.iand, 1) := by decide +kernel
theorem dX3_readNote_83 : decode cX3_readNote 83 = .ok (.invokestatic 146, 3) := by decide +kernel
theorem dX3_readNote_86 : decode cX3_readNote 86 = .ok (.istore 4, 2) := by decide +kernel
theorem dX3_readNote_88 : decode cX3_readNote 88 = .ok (.iload 4, 2) := by decide +kernel
theorem dX3_readNote_90 : decode cX3_readNote 90 = .ok (.ifCond .lt 17, 3) := by decide +kernel
theorem dX3_readNote_93 : decode cX3_readNote 93 = .ok (.iload_n 2, 1) := by decide +kernel
theorem dX3_readNote_94 : decode cX3_readNote 94 = .ok (.ifCond .ne 15, 3) := by decide +kernel
theorem dX3_readNote_97 : decode cX3_readNote 97 = .ok (.aload_n 0, 1) := by decide +kernel
theorem dX3_readNote_98 : decode cX3_readNote 98 = .ok (.getfield 12, 3) := by decide +kernel
theorem dX3_readNote_101 : decode cX3_readNote 101 = .ok (.getfield 178, 3) := by decide +kernel
theorem dX3_readNote_104 : decode cX3_readNote 104 = .ok (.ifCond .eq 5, 3) := by decide +kernel
theorem dX3_readNote_107 : decode cX3_readNote 107 = .ok (.iconst 0, 1) := by decide +kernel
theorem dX3_readNote_108 : decode cX3_readNote 108 = .ok (.ireturn, 1) := by decide +kernel
theorem dX3_readNote_109 : decode cX3_readNote 109 = .ok (.iload_n 2, 1) := by decide +kernel
theorem dX3_readNote_110 : decode cX3_readNote 110 = .ok (.ifCond .le 13, 3) := by decide +kernel
theorem dX3_readNote_113 : decode cX3_readNote 113 = .ok (.iload_n 2, 1) := by decide +kernel
theorem dX3_readNote_114 : decode cX3_readNote 114 = .ok (.bipush 7, 2) := by decide +kernel
theorem dX3_readNote_116 : decode cX3_readNote 116 = .ok (.imul, 1) := by decide +kernel
theorem dX3_readNote_117 : decode cX3_readNote 117 = .ok (.iload 4, 2) := by decide +kernel
theorem dX3_readNote_119 : decode cX3_readNote 119 = .ok (.iadd, 1) := by decide +kernel
theorem dX3_readNote_120 : decode cX3_readNote 120 = .ok (.goto 12, 3) := by decide +kernel
theorem dX3_readNote_123 : decode cX3_readNote 123 = .ok (.aload_n 0, 1) := by decide +kernel
theorem dX3_readNote_124 : decode cX3_readNote 124 = .ok (.getfield 12, 3) := by decide +kernel
theorem dX3_readNote_127 : decode cX3_readNote 127 = .ok (.iload 4, 2) := by decide +kernel
theorem dX3_readNote_129 : decode cX3_readNote 129 = .ok (.invokevirtual 181, 3) := by decide +kernel
theorem dX3_readNote_132 : decode cX3_readNote 132 = .ok (.istore 5, 2) := by decide +kernel
theorem dX3_readNote_134 : decode cX3_readNote 134 = .ok (.iload 5, 2) := by decide +kernel
theorem dX3_readNote_136 : decode cX3_readNote 136 = .ok (.invokestatic 184, 3) := by decide +kernel
theorem dX3_readNote_139 : decode cX3_readNote 139 = .ok (.ifCond .ne 5, 3) := by decide +kernel
theorem dX3_readNote_142 : decode cX3_readNote 142 = .ok (.iconst 0, 1) := by decide +kernel
theorem dX3_readNote_143 : decode cX3_readNote 143 = .ok (.ireturn, 1) := by decide +kernel
theorem dX3_readNote_144 : decode cX3_readNote 144 = .ok (.aload_n 0, 1) := by decide +kernel
theorem dX3_readNote_145 : decode cX3_readNote 145 = .ok (.getfield 12, 3) := by decide +kernel
theorem dX3_readNote_148 : decode cX3_readNote 148 = .ok (.iload 5, 2) := by decide +kernel
theorem dX3_readNote_150 : decode cX3_readNote 150 = .ok (.invokevirtual 187, 3) := by decide +kernel
theorem dX3_readNote_153 : decode cX3_readNote 153 = .ok (.aload_n 0, 1) := by decide +kernel
theorem dX3_readNote_154 : decode cX3_readNote 154 = .ok (.dup, 1) := by decide +kernel
theorem dX3_readNote_155 : decode cX3_readNote 155 = .ok (.getfield 30, 3) := by decide +kernel
theorem dX3_readNote_158 : decode cX3_readNote 158 = .ok (.iconst 1, 1) := by decide +kernel
theorem dX3_readNote_159 : decode cX3_readNote 159 = .ok (.iadd, 1) := by decide +kernel
theorem dX3_readNote_160 : decode cX3_readNote 160 = .ok (.putfield 30, 3) := by decide +kernel
theorem dX3_readNote_163 : decode cX3_readNote 163 = .ok (.getstatic 191, 3) := by decide +kernel
theorem dX3_readNote_166 : decode cX3_readNote 166 = .ok (.iload_n 3, 1) := by decide +kernel
theorem dX3_readNote_167 : decode cX3_readNote 167 = .ok (.bipush 36, 2) := by decide +kernel
theorem dX3_readNote_169 : decode cX3_readNote 169 = .ok (.iand, 1) := by decide +kernel
theorem dX3_readNote_170 : decode cX3_readNote 170 = .ok (.invokestatic 146, 3) := by decide +kernel
theorem dX3_readNote_173 : decode cX3_readNote 173 = .ok (.istore 6, 2) := by decide +kernel
theorem dX3_readNote_175 : decode cX3_readNote 175 = .ok (.aload_n 0, 1) := by decide +kernel
theorem dX3_readNote_176 : decode cX3_readNote 176 = .ok (.getfield 26, 3) := by decide +kernel
theorem dX3_readNote_179 : decode cX3_readNote 179 = .ok (.iload 5, 2) := by decide +kernel
theorem dX3_readNote_181 : decode cX3_readNote 181 = .ok (.iload_n 1, 1) := by decide +kernel
theorem dX3_readNote_182 : decode cX3_readNote 182 = .ok (.iload 6, 2) := by decide +kernel
theorem dX3_readNote_184 : decode cX3_readNote 184 = .ok (.aload_n 0, 1) := by decide +kernel
theorem dX3_readNote_185 : decode cX3_readNote 185 = .ok (.getfield 93, 3) := by decide +kernel
theorem dX3_readNote_188 : decode cX3_readNote 188 = .ok (.aload_n 0, 1) := by decide +kernel
theorem dX3_readNote_189 : decode cX3_readNote 189 = .ok (.invokevirtual 150, 3) := by decide +kernel
theorem dX3_readNote_192 : decode cX3_readNote 192 = .ok (.invokevirtual 153, 3) := by decide +kernel
theorem dX3_readNote_195 : decode cX3_readNote 195 = .ok (.iconst (-1), 1) := by decide +kernel
theorem dX3_readNote_196 : decode cX3_readNote 196 = .ok (.if_icmp .eq 7, 3) := by decide +kernel
theorem dX3_readNote_199 : decode cX3_readNote 199 = .ok (.iconst 1, 1) := by decide +kernel
theorem dX3_readNote_200 : decode cX3_readNote 200 = .ok (.goto 4, 3) := by decide +kernel
theorem dX3_readNote_203 : decode cX3_readNote 203 = .ok (.iconst 0, 1) := by decide +kernel
theorem dX3_readNote_204 : decode cX3_readNote 204 = .ok (.ireturn, 1) := by decide +kernel
theorem dX3_readDots_0 : decode cX3_readDots 0 = .ok (.iconst 0, 1) := by decide +kernel
theorem dX3_readDots_1 : decode cX3_readDots 1 = .ok (.istore_n 1, 1) := by decide +kernel
theorem dX3_readDots_2 : decode cX3_readDots 2 = .ok (.iload_n 1, 1) := by decide +kernel
theorem dX3_readDots_3 : decode cX3_readDots 3 = .ok (.iconst 2, 1) := by decide +kernel
theorem dX3_readDots_4 : decode cX3_readDots 4 = .ok (.if_icmp .ge 27, 3) := by decide +kernel
theorem dX3_readDots_7 : decode cX3_readDots 7 = .ok (.aload_n 0, 1) := by decide +kernel
theorem dX3_readDots_8 : decode cX3_readDots 8 = .ok (.invokevirtual 69, 3) := by decide +kernel
theorem dX3_readDots_11 : decode cX3_readDots 11 = .ok (.iconst 4, 1) := by decide +kernel
theorem dX3_readDots_12 : decode cX3_readDots 12 = .ok (.if_icmp .ne 19, 3) := by decide +kernel
theorem dX3_readDots_15 : decode cX3_readDots 15 = .ok (.iinc 1 1, 3) := by decide +kernel
theorem dX3_readDots_18 : decode cX3_readDots 18 = .ok (.aload_n 0, 1) := by decide +kernel
theorem dX3_readDots_19 : decode cX3_readDots 19 = .ok (.dup, 1) := by decide +kernel
theorem dX3_readDots_20 : decode cX3_readDots 20 = .ok (.getfield 30, 3) := by decide +kernel
theorem dX3_readDots_23 : decode cX3_readDots 23 = .ok (.iconst 1, 1) := by decide +kernel
theorem dX3_readDots_24 : decode cX3_readDots 24 = .ok (.iadd, 1) := by decide +kernel
theorem dX3_readDots_25 : decode cX3_readDots 25 = .ok (.putfield 30, 3) := by decide +kernel
theorem dX3_readDots_28 : decode cX3_readDots 28 = .ok (.goto (-26), 3) := by decide +kernel
theorem dX3_readDots_31 : decode cX3_readDots 31 = .ok (.iload_n 1, 1) := by decide +kernel
theorem dX3_readDots_32 : decode cX3_readDots 32 = .ok (.ireturn, 1) := by decide +kernel
theorem dX3_readIntervals_0 : decode cX3_readIntervals 0 = .ok (.iconst 0, 1) := by decide +kernel
theorem dX3_readIntervals_1 : decode cX3_readIntervals 1 = .ok (.istore_n 1, 1) := by decide +kernel
theorem dX3_readIntervals_2 : decode cX3_readIntervals 2 = .ok (.iload_n 1, 1) := by decide +kernel
theorem dX3_readIntervals_3 : decode cX3_readIntervals 3 = .ok (.iconst 4, 1) := by decide +kernel
theorem dX3_readIntervals_4 : decode cX3_readIntervals 4 = .ok (.if_icmp .ge 126, 3) := by decide +kernel
theorem dX3_readIntervals_7 : decode cX3_readIntervals 7 = .ok (.getstatic 169, 3) := by decide +kernel
theorem dX3_readIntervals_10 : decode cX3_readIntervals 10 = .ok (.aload_n 0, 1) := by decide +kernel
theorem dX3_readIntervals_11 : decode cX3_readIntervals 11 = .ok (.invokevirtual 69, 3) := by decide +kernel
theorem dX3_readIntervals_14 : decode cX3_readIntervals 14 = .ok (.invokestatic 146, 3) := by decide +kernel
theorem dX3_readIntervals_17 : decode cX3_readIntervals 17 = .ok (.iconst 1, 1) := by decide +kernel
theorem dX3_readIntervals_18 : decode cX3_readIntervals 18 = .ok (.iadd, 1) := by decide +kernel
theorem dX3_readIntervals_19 : decode cX3_readIntervals 19 = .ok (.istore_n 2, 1) := by decide +kernel
theorem dX3_readIntervals_20 : decode cX3_readIntervals 20 = .ok (.iload_n 2, 1) := by decide +kernel
theorem dX3_readIntervals_21 : decode cX3_readIntervals 21 = .ok (.ifCond .le 7, 3) := by decide +kernel
theorem dX3_readIntervals_24 : decode cX3_readIntervals 24 = .ok (.iconst 1, 1) := by decide +kernel
theorem dX3_readIntervals_25 : decode cX3_readIntervals 25 = .ok (.goto 4, 3) := by decide +kernel
theorem dX3_readIntervals_28 : decode cX3_readIntervals 28 = .ok (.iconst 0, 1) := by decide +kernel
theorem dX3_readIntervals_29 : decode cX3_readIntervals 29 = .ok (.istore_n 3, 1) := by decide +kernel
theorem dX3_readIntervals_30 : decode cX3_readIntervals 30 = .ok (.getstatic 194, 3) := by decide +kernel
theorem dX3_readIntervals_33 : decode cX3_readIntervals 33 = .ok (.aload_n 0, 1) := by decide +kernel
theorem dX3_readIntervals_34 : decode cX3_readIntervals 34 = .ok (.getfield 22, 3) := by decide +kernel
theorem dX3_readIntervals_37 : decode cX3_readIntervals 37 = .ok (.aload_n 0, 1) := by decide +kernel
theorem dX3_readIntervals_38 : decode cX3_readIntervals 38 = .ok (.getfield 30, 3) := by decide +kernel
theorem dX3_readIntervals_41 : decode cX3_readIntervals 41 = .ok (.iload_n 3, 1) := by decide +kernel
theorem dX3_readIntervals_42 : decode cX3_readIntervals 42 = .ok (.iadd, 1) := by decide +kernel
theorem dX3_readIntervals_43 : decode cX3_readIntervals 43 = .ok (.invokevirtual 61, 3) := by decide +kernel
theorem dX3_readIntervals_46 : decode cX3_readIntervals 46 = .ok (.invokestatic 146, 3) := by decide +kernel
theorem dX3_readIntervals_49 : decode cX3_readIntervals 49 = .ok (.iconst 2, 1) := by decide +kernel
theorem dX3_readIntervals_50 : decode cX3_readIntervals 50 = .ok (.iadd, 1) := by decide +kernel
theorem dX3_readIntervals_51 : decode cX3_readIntervals 51 = .ok (.istore 4, 2) := by decide +kernel
theorem dX3_readIntervals_53 : decode cX3_readIntervals 53 = .ok (.iload 4, 2) := by decide +kernel
theorem dX3_readIntervals_55 : decode cX3_readIntervals 55 = .ok (.iconst 2, 1) := by decide +kernel
theorem dX3_readIntervals_56 : decode cX3_readIntervals 56 = .ok (.if_icmp .ge 5, 3) := by decide +kernel
theorem dX3_readIntervals_59 : decode cX3_readIntervals 59 = .ok (.iconst 1, 1) := by decide +kernel
theorem dX3_readIntervals_60 : decode cX3_readIntervals 60 = .ok (.ireturn, 1) := by decide +kernel
theorem dX3_readIntervals_61 : decode cX3_readIntervals 61 = .ok (.aload_n 0, 1) := by decide +kernel
theorem dX3_readIntervals_62 : decode cX3_readIntervals 62 = .ok (.dup, 1) := by decide +kernel
theorem dX3_readIntervals_63 : decode cX3_readIntervals 63 = .ok (.getfield 30, 3) := by decide +kernel
theorem dX3_readIntervals_66 : decode cX3_readIntervals 66 = .ok (.iload_n 3, 1) := by decide +kernel
theorem dX3_readIntervals_67 : decode cX3_readIntervals 67 = .ok (.iadd, 1) := by decide +kernel
theorem dX3_readIntervals_68 : decode cX3_readIntervals 68 = .ok (.putfield 30, 3) := by decide +kernel
theorem dX3_readIntervals_71 : decode cX3_readIntervals 71 = .ok (.aload_n 0, 1) := by decide +kernel
theorem dX3_readIntervals_72 : decode cX3_readIntervals 72 = .ok (.getfield 26, 3) := by decide +kernel
theorem dX3_readIntervals_75 : decode cX3_readIntervals 75 = .ok (.aload_n 0, 1) := by decide +kernel
theorem dX3_readIntervals_76 : decode cX3_readIntervals 76 = .ok (.getfield 26, 3) := by decide +kernel
theorem dX3_readIntervals_79 : decode cX3_readIntervals 79 = .ok (.getfield 96, 3) := by decide +kernel
theorem dX3_readIntervals_82 : decode cX3_readIntervals 82 = .ok (.iconst 1, 1) := by decide +kernel
theorem dX3_readIntervals_83 : decode cX3_readIntervals 83 = .ok (.isub, 1) := by decide +kernel
theorem dX3_readIntervals_84 : decode cX3_readIntervals 84 = .ok (.iload 4, 2) := by decide +kernel
theorem dX3_readIntervals_86 : decode cX3_readIntervals 86 = .ok (.aload_n 0, 1) := by decide +kernel
theorem dX3_readIntervals_87 : decode cX3_readIntervals 87 = .ok (.getfield 26, 3) := by decide +kernel
theorem dX3_readIntervals_90 : decode cX3_readIntervals 90 = .ok (.getfield 73, 3) := by decide +kernel
theorem dX3_readIntervals_93 : decode cX3_readIntervals 93 = .ok (.invokevirtual 197, 3) := by decide +kernel
theorem dX3_readIntervals_96 : decode cX3_readIntervals 96 = .ok (.invokestatic 184, 3) := by decide +kernel
theorem dX3_readIntervals_99 : decode cX3_readIntervals 99 = .ok (.ifCond .ne 5, 3) := by decide +kernel
theorem dX3_readIntervals_102 : decode cX3_readIntervals 102 = .ok (.iconst 0, 1) := by decide +kernel
theorem dX3_readIntervals_103 : decode cX3_readIntervals 103 = .ok (.ireturn, 1) := by decide +kernel
theorem dX3_readIntervals_104 : decode cX3_readIntervals 104 = .ok (.aload_n 0, 1) := by decide +kernel
theorem dX3_readIntervals_105 : decode cX3_readIntervals 105 = .ok (.dup, 1) := by decide +kernel
theorem dX3_readIntervals_106 : decode cX3_readIntervals 106 = .ok (.getfield 30, 3) := by decide +kernel
theorem dX3_readIntervals_109 : decode cX3_readIntervals 109 = .ok (.iconst 1, 1) := by decide +kernel
theorem dX3_readIntervals_110 : decode cX3_readIntervals 110 = .ok (.iadd, 1) := by decide +kernel
theorem dX3_readIntervals_111 : decode cX3_readIntervals 111 = .ok (.putfield 30, 3) := by decide +kernel
theorem dX3_readIntervals_114 : decode cX3_readIntervals 114 = .ok (.aload_n 0, 1) := by decide +kernel
theorem dX3_readIntervals_115 : decode cX3_readIntervals 115 = .ok (.getfield 26, 3) := by decide +kernel
theorem dX3_readIntervals_118 : decode cX3_readIntervals 118 = .ok (.iload 4, 2) := by decide +kernel
theorem dX3_readIntervals_120 : decode cX3_readIntervals 120 = .ok (.iload_n 2, 1) := by decide +kernel
theorem dX3_readIntervals_121 : decode cX3_readIntervals 121 = .ok (.invokevirtual 201, 3) := by decide +kernel
theorem dX3_readIntervals_124 : decode cX3_readIntervals 124 = .ok (.iinc 1 1, 3) := by decide +kernel
theorem dX3_readIntervals_127 : decode cX3_readIntervals 127 = .ok (.goto (-125), 3) := by decide +kernel
theorem dX3_readIntervals_130 : decode cX3_readIntervals 130 = .ok (.iconst 1, 1) := by decide +kernel
theorem dX3_readIntervals_131 : decode cX3_readIntervals 131 = .ok (.ireturn, 1) := by decide +kernel
theorem dX3_readTie_0 : decode cX3_readTie 0 = .ok (.aload_n 0, 1) := by decide +kernel
theorem dX3_readTie_1 : decode cX3_readTie 1 = .ok (.getfield 26, 3) := by decide +kernel
theorem dX3_readTie_4 : decode cX3_readTie 4 = .ok (.getfield 96, 3) := by decide +kernel
theorem dX3_readTie_7 : decode cX3_readTie 7 = .ok (.iconst 1, 1) := by decide +kernel
theorem dX3_readTie_8 : decode cX3_readTie 8 = .ok (.isub, 1) := by decide +kernel
theorem dX3_readTie_9 : decode cX3_readTie 9 = .ok (.istore_n 1, 1) := by decide +kernel
theorem dX3_readTie_10 : decode cX3_readTie 10 = .ok (.iload_n 1, 1) := by decide +kernel
theorem dX3_readTie_11 : decode cX3_readTie 11 = .ok (.ifCond .lt 34, 3) := by decide +kernel
theorem dX3_readTie_14 : decode cX3_readTie 14 = .ok (.aload_n 0, 1) := by decide +kernel
theorem dX3_readTie_15 : decode cX3_readTie 15 = .ok (.bipush 8, 2) := by decide +kernel
theorem dX3_readTie_17 : decode cX3_readTie 17 = .ok (.bipush 9, 2) := by decide +kernel
theorem dX3_readTie_19 : decode cX3_readTie 19 = .ok (.invokevirtual 65, 3) := by decide +kernel
theorem dX3_readTie_22 : decode cX3_readTie 22 = .ok (.ifCond .eq 23, 3) := by decide +kernel
theorem dX3_readTie_25 : decode cX3_readTie 25 = .ok (.aload_n 0, 1) := by decide +kernel
theorem dX3_readTie_26 : decode cX3_readTie 26 = .ok (.getfield 26, 3) := by decide +kernel
theorem dX3_readTie_29 : decode cX3_readTie 29 = .ok (.getfield 205, 3) := by decide +kernel
theorem dX3_readTie_32 : decode cX3_readTie 32 = .ok (.iload_n 1, 1) := by decide +kernel
