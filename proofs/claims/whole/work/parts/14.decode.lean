theorem dX6_told_41 : decode cX6_told 41 = .ok (.getfield 22, 3) := by decide +kernel
theorem dX6_told_44 : decode cX6_told 44 = .ok (.getfield 80, 3) := by decide +kernel
theorem dX6_told_47 : decode cX6_told 47 = .ok (.ireturn, 1) := by decide +kernel
theorem dX6_told_48 : decode cX6_told 48 = .ok (.aload_n 0, 1) := by decide +kernel
theorem dX6_told_49 : decode cX6_told 49 = .ok (.getfield 22, 3) := by decide +kernel
theorem dX6_told_52 : decode cX6_told 52 = .ok (.getfield 138, 3) := by decide +kernel
theorem dX6_told_55 : decode cX6_told 55 = .ok (.ireturn, 1) := by decide +kernel
theorem dX6_told_56 : decode cX6_told 56 = .ok (.aload_n 0, 1) := by decide +kernel
theorem dX6_told_57 : decode cX6_told 57 = .ok (.getfield 22, 3) := by decide +kernel
theorem dX6_told_60 : decode cX6_told 60 = .ok (.getfield 73, 3) := by decide +kernel
theorem dX6_told_63 : decode cX6_told 63 = .ok (.ireturn, 1) := by decide +kernel
theorem dX6_told_64 : decode cX6_told 64 = .ok (.aload_n 0, 1) := by decide +kernel
theorem dX6_told_65 : decode cX6_told 65 = .ok (.getfield 10, 3) := by decide +kernel
theorem dX6_told_68 : decode cX6_told 68 = .ok (.getfield 52, 3) := by decide +kernel
theorem dX6_told_71 : decode cX6_told 71 = .ok (.ireturn, 1) := by decide +kernel
theorem dX6_told_72 : decode cX6_told 72 = .ok (.aload_n 0, 1) := by decide +kernel
theorem dX6_told_73 : decode cX6_told 73 = .ok (.getfield 22, 3) := by decide +kernel
theorem dX6_told_76 : decode cX6_told 76 = .ok (.getfield 87, 3) := by decide +kernel
theorem dX6_told_79 : decode cX6_told 79 = .ok (.ireturn, 1) := by decide +kernel
theorem dX6_told_80 : decode cX6_told 80 = .ok (.aload_n 0, 1) := by decide +kernel
theorem dX6_told_81 : decode cX6_told 81 = .ok (.getfield 22, 3) := by decide +kernel
theorem dX6_told_84 : decode cX6_told 84 = .ok (.invokevirtual 98, 3) := by decide +kernel
theorem dX6_told_87 : decode cX6_told 87 = .ok (.ifCond .ge 7, 3) := by decide +kernel
theorem dX6_told_90 : decode cX6_told 90 = .ok (.iconst 0, 1) := by decide +kernel
theorem dX6_told_91 : decode cX6_told 91 = .ok (.goto 17, 3) := by decide +kernel
theorem dX6_told_94 : decode cX6_told 94 = .ok (.aload_n 0, 1) := by decide +kernel
theorem dX6_told_95 : decode cX6_told 95 = .ok (.getfield 22, 3) := by decide +kernel
theorem dX6_told_98 : decode cX6_told 98 = .ok (.aload_n 0, 1) := by decide +kernel
theorem dX6_told_99 : decode cX6_told 99 = .ok (.getfield 22, 3) := by decide +kernel
theorem dX6_told_102 : decode cX6_told 102 = .ok (.invokevirtual 98, 3) := by decide +kernel
theorem dX6_told_105 : decode cX6_told 105 = .ok (.invokevirtual 132, 3) := by decide +kernel
theorem dX6_told_108 : decode cX6_told 108 = .ok (.ireturn, 1) := by decide +kernel
theorem dX6_told_109 : decode cX6_told 109 = .ok (.bipush (-2), 2) := by decide +kernel
theorem dX6_told_111 : decode cX6_told 111 = .ok (.ireturn, 1) := by decide +kernel
theorem dX6_isPitch_0 : decode cX6_isPitch 0 = .ok (.iload_n 0, 1) := by decide +kernel
theorem dX6_isPitch_1 : decode cX6_isPitch 1 = .ok (.bipush 7, 2) := by decide +kernel
theorem dX6_isPitch_3 : decode cX6_isPitch 3 = .ok (.if_icmp .lt 13, 3) := by decide +kernel
theorem dX6_isPitch_6 : decode cX6_isPitch 6 = .ok (.iload_n 0, 1) := by decide +kernel
theorem dX6_isPitch_7 : decode cX6_isPitch 7 = .ok (.bipush 55, 2) := by decide +kernel
theorem dX6_isPitch_9 : decode cX6_isPitch 9 = .ok (.if_icmp .gt 7, 3) := by decide +kernel
theorem dX6_isPitch_12 : decode cX6_isPitch 12 = .ok (.iconst 1, 1) := by decide +kernel
theorem dX6_isPitch_13 : decode cX6_isPitch 13 = .ok (.goto 4, 3) := by decide +kernel
theorem dX6_isPitch_16 : decode cX6_isPitch 16 = .ok (.iconst 0, 1) := by decide +kernel
theorem dX6_isPitch_17 : decode cX6_isPitch 17 = .ok (.ireturn, 1) := by decide +kernel
theorem dX6_isSign_0 : decode cX6_isSign 0 = .ok (.iload_n 0, 1) := by decide +kernel
theorem dX6_isSign_1 : decode cX6_isSign 1 = .ok (.ifCond .lt 15, 3) := by decide +kernel
theorem dX6_isSign_4 : decode cX6_isSign 4 = .ok (.iload_n 0, 1) := by decide +kernel
theorem dX6_isSign_5 : decode cX6_isSign 5 = .ok (.getstatic 217, 3) := by decide +kernel
theorem dX6_isSign_8 : decode cX6_isSign 8 = .ok (.arraylength, 1) := by decide +kernel
theorem dX6_isSign_9 : decode cX6_isSign 9 = .ok (.if_icmp .gt 7, 3) := by decide +kernel
theorem dX6_isSign_12 : decode cX6_isSign 12 = .ok (.iconst 1, 1) := by decide +kernel
theorem dX6_isSign_13 : decode cX6_isSign 13 = .ok (.goto 4, 3) := by decide +kernel
theorem dX6_isSign_16 : decode cX6_isSign 16 = .ok (.iconst 0, 1) := by decide +kernel
theorem dX6_isSign_17 : decode cX6_isSign 17 = .ok (.ireturn, 1) := by decide +kernel
theorem dX6_isKind_0 : decode cX6_isKind 0 = .ok (.iload_n 0, 1) := by decide +kernel
theorem dX6_isKind_1 : decode cX6_isKind 1 = .ok (.ifCond .lt 15, 3) := by decide +kernel
theorem dX6_isKind_4 : decode cX6_isKind 4 = .ok (.iload_n 0, 1) := by decide +kernel
theorem dX6_isKind_5 : decode cX6_isKind 5 = .ok (.getstatic 220, 3) := by decide +kernel
theorem dX6_isKind_8 : decode cX6_isKind 8 = .ok (.arraylength, 1) := by decide +kernel
theorem dX6_isKind_9 : decode cX6_isKind 9 = .ok (.if_icmp .ge 7, 3) := by decide +kernel
theorem dX6_isKind_12 : decode cX6_isKind 12 = .ok (.iconst 1, 1) := by decide +kernel
theorem dX6_isKind_13 : decode cX6_isKind 13 = .ok (.goto 4, 3) := by decide +kernel
theorem dX6_isKind_16 : decode cX6_isKind 16 = .ok (.iconst 0, 1) := by decide +kernel
theorem dX6_isKind_17 : decode cX6_isKind 17 = .ok (.ireturn, 1) := by decide +kernel
theorem dX6_isDots_0 : decode cX6_isDots 0 = .ok (.iload_n 0, 1) := by decide +kernel
theorem dX6_isDots_1 : decode cX6_isDots 1 = .ok (.ifCond .lt 12, 3) := by decide +kernel
theorem dX6_isDots_4 : decode cX6_isDots 4 = .ok (.iload_n 0, 1) := by decide +kernel
theorem dX6_isDots_5 : decode cX6_isDots 5 = .ok (.iconst 2, 1) := by decide +kernel
theorem dX6_isDots_6 : decode cX6_isDots 6 = .ok (.if_icmp .gt 7, 3) := by decide +kernel
theorem dX6_isDots_9 : decode cX6_isDots 9 = .ok (.iconst 1, 1) := by decide +kernel
theorem dX6_isDots_10 : decode cX6_isDots 10 = .ok (.goto 4, 3) := by decide +kernel
theorem dX6_isDots_13 : decode cX6_isDots 13 = .ok (.iconst 0, 1) := by decide +kernel
theorem dX6_isDots_14 : decode cX6_isDots 14 = .ok (.ireturn, 1) := by decide +kernel
theorem dX6_lengthOf_0 : decode cX6_lengthOf 0 = .ok (.iload_n 0, 1) := by decide +kernel
theorem dX6_lengthOf_1 : decode cX6_lengthOf 1 = .ok (.ifCond .lt 23, 3) := by decide +kernel
theorem dX6_lengthOf_4 : decode cX6_lengthOf 4 = .ok (.iload_n 0, 1) := by decide +kernel
theorem dX6_lengthOf_5 : decode cX6_lengthOf 5 = .ok (.getstatic 223, 3) := by decide +kernel
theorem dX6_lengthOf_8 : decode cX6_lengthOf 8 = .ok (.arraylength, 1) := by decide +kernel
theorem dX6_lengthOf_9 : decode cX6_lengthOf 9 = .ok (.if_icmp .ge 15, 3) := by decide +kernel
theorem dX6_lengthOf_12 : decode cX6_lengthOf 12 = .ok (.iload_n 2, 1) := by decide +kernel
theorem dX6_lengthOf_13 : decode cX6_lengthOf 13 = .ok (.ifCond .lt 11, 3) := by decide +kernel
theorem dX6_lengthOf_16 : decode cX6_lengthOf 16 = .ok (.iload_n 2, 1) := by decide +kernel
theorem dX6_lengthOf_17 : decode cX6_lengthOf 17 = .ok (.getstatic 226, 3) := by decide +kernel
theorem dX6_lengthOf_20 : decode cX6_lengthOf 20 = .ok (.arraylength, 1) := by decide +kernel
theorem dX6_lengthOf_21 : decode cX6_lengthOf 21 = .ok (.if_icmp .lt 5, 3) := by decide +kernel
theorem dX6_lengthOf_24 : decode cX6_lengthOf 24 = .ok (.iconst 0, 1) := by decide +kernel
theorem dX6_lengthOf_25 : decode cX6_lengthOf 25 = .ok (.ireturn, 1) := by decide +kernel
theorem dX6_lengthOf_26 : decode cX6_lengthOf 26 = .ok (.getstatic 223, 3) := by decide +kernel
theorem dX6_lengthOf_29 : decode cX6_lengthOf 29 = .ok (.iload_n 0, 1) := by decide +kernel
theorem dX6_lengthOf_30 : decode cX6_lengthOf 30 = .ok (.iaload, 1) := by decide +kernel
theorem dX6_lengthOf_31 : decode cX6_lengthOf 31 = .ok (.getstatic 226, 3) := by decide +kernel
theorem dX6_lengthOf_34 : decode cX6_lengthOf 34 = .ok (.iload_n 2, 1) := by decide +kernel
theorem dX6_lengthOf_35 : decode cX6_lengthOf 35 = .ok (.iaload, 1) := by decide +kernel
theorem dX6_lengthOf_36 : decode cX6_lengthOf 36 = .ok (.imul, 1) := by decide +kernel
theorem dX6_lengthOf_37 : decode cX6_lengthOf 37 = .ok (.iload_n 1, 1) := by decide +kernel
theorem dX6_lengthOf_38 : decode cX6_lengthOf 38 = .ok (.ifCond .ne 8, 3) := by decide +kernel
theorem dX6_lengthOf_41 : decode cX6_lengthOf 41 = .ok (.bipush 16, 2) := by decide +kernel
theorem dX6_lengthOf_43 : decode cX6_lengthOf 43 = .ok (.goto 4, 3) := by decide +kernel
theorem dX6_lengthOf_46 : decode cX6_lengthOf 46 = .ok (.iconst 1, 1) := by decide +kernel
theorem dX6_lengthOf_47 : decode cX6_lengthOf 47 = .ok (.imul, 1) := by decide +kernel
theorem dX6_lengthOf_48 : decode cX6_lengthOf 48 = .ok (.ireturn, 1) := by decide +kernel
theorem dX6_cellAt_0 : decode cX6_cellAt 0 = .ok (.iload_n 1, 1) := by decide +kernel
theorem dX6_cellAt_1 : decode cX6_cellAt 1 = .ok (.ifCond .lt 15, 3) := by decide +kernel
theorem dX6_cellAt_4 : decode cX6_cellAt 4 = .ok (.iload_n 1, 1) := by decide +kernel
theorem dX6_cellAt_5 : decode cX6_cellAt 5 = .ok (.aload_n 0, 1) := by decide +kernel
theorem dX6_cellAt_6 : decode cX6_cellAt 6 = .ok (.arraylength, 1) := by decide +kernel
theorem dX6_cellAt_7 : decode cX6_cellAt 7 = .ok (.if_icmp .ge 9, 3) := by decide +kernel
theorem dX6_cellAt_10 : decode cX6_cellAt 10 = .ok (.aload_n 0, 1) := by decide +kernel
theorem dX6_cellAt_11 : decode cX6_cellAt 11 = .ok (.iload_n 1, 1) := by decide +kernel
theorem dX6_cellAt_12 : decode cX6_cellAt 12 = .ok (.iaload, 1) := by decide +kernel
theorem dX6_cellAt_13 : decode cX6_cellAt 13 = .ok (.goto 4, 3) := by decide +kernel
theorem dX6_cellAt_16 : decode cX6_cellAt 16 = .ok (.iconst 0, 1) := by decide +kernel
theorem dX6_cellAt_17 : decode cX6_cellAt 17 = .ok (.ireturn, 1) := by decide +kernel
theorem dX6_indexIn_0 : decode cX6_indexIn 0 = .ok (.iconst 0, 1) := by decide +kernel
theorem dX6_indexIn_1 : decode cX6_indexIn 1 = .ok (.istore_n 2, 1) := by decide +kernel
theorem dX6_indexIn_2 : decode cX6_indexIn 2 = .ok (.iload_n 2, 1) := by decide +kernel
theorem dX6_indexIn_3 : decode cX6_indexIn 3 = .ok (.aload_n 0, 1) := by decide +kernel
theorem dX6_indexIn_4 : decode cX6_indexIn 4 = .ok (.arraylength, 1) := by decide +kernel
theorem dX6_indexIn_5 : decode cX6_indexIn 5 = .ok (.if_icmp .ge 18, 3) := by decide +kernel
theorem dX6_indexIn_8 : decode cX6_indexIn 8 = .ok (.aload_n 0, 1) := by decide +kernel
theorem dX6_indexIn_9 : decode cX6_indexIn 9 = .ok (.iload_n 2, 1) := by decide +kernel
theorem dX6_indexIn_10 : decode cX6_indexIn 10 = .ok (.iaload, 1) := by decide +kernel
theorem dX6_indexIn_11 : decode cX6_indexIn 11 = .ok (.iload_n 1, 1) := by decide +kernel
theorem dX6_indexIn_12 : decode cX6_indexIn 12 = .ok (.if_icmp .ne 5, 3) := by decide +kernel
theorem dX6_indexIn_15 : decode cX6_indexIn 15 = .ok (.iload_n 2, 1) := by decide +kernel
theorem dX6_indexIn_16 : decode cX6_indexIn 16 = .ok (.ireturn, 1) := by decide +kernel
theorem dX6_indexIn_17 : decode cX6_indexIn 17 = .ok (.iinc 2 1, 3) := by decide +kernel
theorem dX6_indexIn_20 : decode cX6_indexIn 20 = .ok (.goto (-18), 3) := by decide +kernel
theorem dX6_indexIn_23 : decode cX6_indexIn 23 = .ok (.iconst (-1), 1) := by decide +kernel
theorem dX6_indexIn_24 : decode cX6_indexIn 24 = .ok (.ireturn, 1) := by decide +kernel
theorem dX7_init_0 : decode cX7_init 0 = .ok (.aload_n 0, 1) := by decide +kernel
theorem dX7_init_1 : decode cX7_init 1 = .ok (.invokespecial 1, 3) := by decide +kernel
theorem dX7_init_4 : decode cX7_init 4 = .ok (.aload_n 0, 1) := by decide +kernel
theorem dX7_init_5 : decode cX7_init 5 = .ok (.bipush 7, 2) := by decide +kernel
theorem dX7_init_7 : decode cX7_init 7 = .ok (.newarray .int, 2) := by decide +kernel
theorem dX7_init_9 : decode cX7_init 9 = .ok (.dup, 1) := by decide +kernel
theorem dX7_init_10 : decode cX7_init 10 = .ok (.iconst 0, 1) := by decide +kernel
theorem dX7_init_11 : decode cX7_init 11 = .ok (.bipush 25, 2) := by decide +kernel
theorem dX7_init_13 : decode cX7_init 13 = .ok (.iastore, 1) := by decide +kernel
theorem dX7_init_14 : decode cX7_init 14 = .ok (.dup, 1) := by decide +kernel
theorem dX7_init_15 : decode cX7_init 15 = .ok (.iconst 1, 1) := by decide +kernel
theorem dX7_init_16 : decode cX7_init 16 = .ok (.bipush 17, 2) := by decide +kernel
theorem dX7_init_18 : decode cX7_init 18 = .ok (.iastore, 1) := by decide +kernel
theorem dX7_init_19 : decode cX7_init 19 = .ok (.dup, 1) := by decide +kernel
theorem dX7_init_20 : decode cX7_init 20 = .ok (.iconst 2, 1) := by decide +kernel
theorem dX7_init_21 : decode cX7_init 21 = .ok (.bipush 11, 2) := by decide +kernel
theorem dX7_init_23 : decode cX7_init 23 = .ok (.iastore, 1) := by decide +kernel
theorem dX7_init_24 : decode cX7_init 24 = .ok (.dup, 1) := by decide +kernel
theorem dX7_init_25 : decode cX7_init 25 = .ok (.iconst 3, 1) := by decide +kernel
theorem dX7_init_26 : decode cX7_init 26 = .ok (.bipush 27, 2) := by decide +kernel
theorem dX7_init_28 : decode cX7_init 28 = .ok (.iastore, 1) := by decide +kernel
theorem dX7_init_29 : decode cX7_init 29 = .ok (.dup, 1) := by decide +kernel
theorem dX7_init_30 : decode cX7_init 30 = .ok (.iconst 4, 1) := by decide +kernel
theorem dX7_init_31 : decode cX7_init 31 = .ok (.bipush 19, 2) := by decide +kernel
theorem dX7_init_33 : decode cX7_init 33 = .ok (.iastore, 1) := by decide +kernel
theorem dX7_init_34 : decode cX7_init 34 = .ok (.dup, 1) := by decide +kernel
theorem dX7_init_35 : decode cX7_init 35 = .ok (.iconst 5, 1) := by decide +kernel
theorem dX7_init_36 : decode cX7_init 36 = .ok (.bipush 10, 2) := by decide +kernel
theorem dX7_init_38 : decode cX7_init 38 = .ok (.iastore, 1) := by decide +kernel
theorem dX7_init_39 : decode cX7_init 39 = .ok (.dup, 1) := by decide +kernel
theorem dX7_init_40 : decode cX7_init 40 = .ok (.bipush 6, 2) := by decide +kernel
theorem dX7_init_42 : decode cX7_init 42 = .ok (.bipush 26, 2) := by decide +kernel
theorem dX7_init_44 : decode cX7_init 44 = .ok (.iastore, 1) := by decide +kernel
theorem dX7_init_45 : decode cX7_init 45 = .ok (.putfield 7, 3) := by decide +kernel
theorem dX7_init_48 : decode cX7_init 48 = .ok (.aload_n 0, 1) := by decide +kernel
theorem dX7_init_49 : decode cX7_init 49 = .ok (.iconst 4, 1) := by decide +kernel
theorem dX7_init_50 : decode cX7_init 50 = .ok (.newarray .int, 2) := by decide +kernel
theorem dX7_init_52 : decode cX7_init 52 = .ok (.dup, 1) := by decide +kernel
theorem dX7_init_53 : decode cX7_init 53 = .ok (.iconst 0, 1) := by decide +kernel
theorem dX7_init_54 : decode cX7_init 54 = .ok (.bipush 36, 2) := by decide +kernel
theorem dX7_init_56 : decode cX7_init 56 = .ok (.iastore, 1) := by decide +kernel
theorem dX7_init_57 : decode cX7_init 57 = .ok (.dup, 1) := by decide +kernel
theorem dX7_init_58 : decode cX7_init 58 = .ok (.iconst 1, 1) := by decide +kernel
theorem dX7_init_59 : decode cX7_init 59 = .ok (.iconst 4, 1) := by decide +kernel
theorem dX7_init_60 : decode cX7_init 60 = .ok (.iastore, 1) := by decide +kernel
theorem dX7_init_61 : decode cX7_init 61 = .ok (.dup, 1) := by decide +kernel
theorem dX7_init_62 : decode cX7_init 62 = .ok (.iconst 2, 1) := by decide +kernel
theorem dX7_init_63 : decode cX7_init 63 = .ok (.bipush 32, 2) := by decide +kernel
theorem dX7_init_65 : decode cX7_init 65 = .ok (.iastore, 1) := by decide +kernel
theorem dX7_init_66 : decode cX7_init 66 = .ok (.dup, 1) := by decide +kernel
theorem dX7_init_67 : decode cX7_init 67 = .ok (.iconst 3, 1) := by decide +kernel
theorem dX7_init_68 : decode cX7_init 68 = .ok (.iconst 0, 1) := by decide +kernel
theorem dX7_init_69 : decode cX7_init 69 = .ok (.iastore, 1) := by decide +kernel
theorem dX7_init_70 : decode cX7_init 70 = .ok (.putfield 13, 3) := by decide +kernel
theorem dX7_init_73 : decode cX7_init 73 = .ok (.aload_n 0, 1) := by decide +kernel
theorem dX7_init_74 : decode cX7_init 74 = .ok (.iconst 4, 1) := by decide +kernel
theorem dX7_init_75 : decode cX7_init 75 = .ok (.newarray .int, 2) := by decide +kernel
theorem dX7_init_77 : decode cX7_init 77 = .ok (.dup, 1) := by decide +kernel
theorem dX7_init_78 : decode cX7_init 78 = .ok (.iconst 0, 1) := by decide +kernel
theorem dX7_init_79 : decode cX7_init 79 = .ok (.bipush 13, 2) := by decide +kernel
theorem dX7_init_81 : decode cX7_init 81 = .ok (.iastore, 1) := by decide +kernel
theorem dX7_init_82 : decode cX7_init 82 = .ok (.dup, 1) := by decide +kernel
theorem dX7_init_83 : decode cX7_init 83 = .ok (.iconst 1, 1) := by decide +kernel
theorem dX7_init_84 : decode cX7_init 84 = .ok (.bipush 37, 2) := by decide +kernel
theorem dX7_init_86 : decode cX7_init 86 = .ok (.iastore, 1) := by decide +kernel
theorem dX7_init_87 : decode cX7_init 87 = .ok (.dup, 1) := by decide +kernel
theorem dX7_init_88 : decode cX7_init 88 = .ok (.iconst 2, 1) := by decide +kernel
theorem dX7_init_89 : decode cX7_init 89 = .ok (.bipush 39, 2) := by decide +kernel
theorem dX7_init_91 : decode cX7_init 91 = .ok (.iastore, 1) := by decide +kernel
theorem dX7_init_92 : decode cX7_init 92 = .ok (.dup, 1) := by decide +kernel
theorem dX7_init_93 : decode cX7_init 93 = .ok (.iconst 3, 1) := by decide +kernel
theorem dX7_init_94 : decode cX7_init 94 = .ok (.bipush 45, 2) := by decide +kernel
theorem dX7_init_96 : decode cX7_init 96 = .ok (.iastore, 1) := by decide +kernel
theorem dX7_init_97 : decode cX7_init 97 = .ok (.putfield 16, 3) := by decide +kernel
theorem dX7_init_100 : decode cX7_init 100 = .ok (.aload_n 0, 1) := by decide +kernel
theorem dX7_init_101 : decode cX7_init 101 = .ok (.bipush 7, 2) := by decide +kernel
theorem dX7_init_103 : decode cX7_init 103 = .ok (.newarray .int, 2) := by decide +kernel
theorem dX7_init_105 : decode cX7_init 105 = .ok (.dup, 1) := by decide +kernel
theorem dX7_init_106 : decode cX7_init 106 = .ok (.iconst 0, 1) := by decide +kernel
theorem dX7_init_107 : decode cX7_init 107 = .ok (.bipush 8, 2) := by decide +kernel
theorem dX7_init_109 : decode cX7_init 109 = .ok (.iastore, 1) := by decide +kernel
theorem dX7_init_110 : decode cX7_init 110 = .ok (.dup, 1) := by decide +kernel
theorem dX7_init_111 : decode cX7_init 111 = .ok (.iconst 1, 1) := by decide +kernel
theorem dX7_init_112 : decode cX7_init 112 = .ok (.bipush 24, 2) := by decide +kernel
theorem dX7_init_114 : decode cX7_init 114 = .ok (.iastore, 1) := by decide +kernel
theorem dX7_init_115 : decode cX7_init 115 = .ok (.dup, 1) := by decide +kernel
theorem dX7_init_116 : decode cX7_init 116 = .ok (.iconst 2, 1) := by decide +kernel
theorem dX7_init_117 : decode cX7_init 117 = .ok (.bipush 56, 2) := by decide +kernel
theorem dX7_init_119 : decode cX7_init 119 = .ok (.iastore, 1) := by decide +kernel
theorem dX7_init_120 : decode cX7_init 120 = .ok (.dup, 1) := by decide +kernel
theorem dX7_init_121 : decode cX7_init 121 = .ok (.iconst 3, 1) := by decide +kernel
theorem dX7_init_122 : decode cX7_init 122 = .ok (.bipush 16, 2) := by decide +kernel
theorem dX7_init_124 : decode cX7_init 124 = .ok (.iastore, 1) := by decide +kernel
theorem dX7_init_125 : decode cX7_init 125 = .ok (.dup, 1) := by decide +kernel
theorem dX7_init_126 : decode cX7_init 126 = .ok (.iconst 4, 1) := by decide +kernel
theorem dX7_init_127 : decode cX7_init 127 = .ok (.bipush 40, 2) := by decide +kernel
theorem dX7_init_129 : decode cX7_init 129 = .ok (.iastore, 1) := by decide +kernel
theorem dX7_init_130 : decode cX7_init 130 = .ok (.dup, 1) := by decide +kernel
theorem dX7_init_131 : decode cX7_init 131 = .ok (.iconst 5, 1) := by decide +kernel
theorem dX7_init_132 : decode cX7_init 132 = .ok (.bipush 48, 2) := by decide +kernel
theorem dX7_init_134 : decode cX7_init 134 = .ok (.iastore, 1) := by decide +kernel
theorem dX7_init_135 : decode cX7_init 135 = .ok (.dup, 1) := by decide +kernel
theorem dX7_init_136 : decode cX7_init 136 = .ok (.bipush 6, 2) := by decide +kernel
theorem dX7_init_138 : decode cX7_init 138 = .ok (.bipush 32, 2) := by decide +kernel
theorem dX7_init_140 : decode cX7_init 140 = .ok (.iastore, 1) := by decide +kernel
theorem dX7_init_141 : decode cX7_init 141 = .ok (.putfield 19, 3) := by decide +kernel
theorem dX7_init_144 : decode cX7_init 144 = .ok (.aload_n 0, 1) := by decide +kernel
theorem dX7_init_145 : decode cX7_init 145 = .ok (.bipush 7, 2) := by decide +kernel
theorem dX7_init_147 : decode cX7_init 147 = .ok (.newarray .int, 2) := by decide +kernel
theorem dX7_init_149 : decode cX7_init 149 = .ok (.dup, 1) := by decide +kernel
theorem dX7_init_150 : decode cX7_init 150 = .ok (.iconst 0, 1) := by decide +kernel
theorem dX7_init_151 : decode cX7_init 151 = .ok (.bipush 12, 2) := by decide +kernel
theorem dX7_init_153 : decode cX7_init 153 = .ok (.iastore, 1) := by decide +kernel
theorem dX7_init_154 : decode cX7_init 154 = .ok (.dup, 1) := by decide +kernel
theorem dX7_init_155 : decode cX7_init 155 = .ok (.iconst 1, 1) := by decide +kernel
theorem dX7_init_156 : decode cX7_init 156 = .ok (.bipush 44, 2) := by decide +kernel
theorem dX7_init_158 : decode cX7_init 158 = .ok (.iastore, 1) := by decide +kernel
theorem dX7_init_159 : decode cX7_init 159 = .ok (.dup, 1) := by decide +kernel
theorem dX7_init_160 : decode cX7_init 160 = .ok (.iconst 2, 1) := by decide +kernel
theorem dX7_init_161 : decode cX7_init 161 = .ok (.bipush 60, 2) := by decide +kernel
theorem dX7_init_163 : decode cX7_init 163 = .ok (.iastore, 1) := by decide +kernel
theorem dX7_init_164 : decode cX7_init 164 = .ok (.dup, 1) := by decide +kernel
theorem dX7_init_165 : decode cX7_init 165 = .ok (.iconst 3, 1) := by decide +kernel
theorem dX7_init_166 : decode cX7_init 166 = .ok (.bipush 20, 2) := by decide +kernel
theorem dX7_init_168 : decode cX7_init 168 = .ok (.iastore, 1) := by decide +kernel
theorem dX7_init_169 : decode cX7_init 169 = .ok (.dup, 1) := by decide +kernel
theorem dX7_init_170 : decode cX7_init 170 = .ok (.iconst 4, 1) := by decide +kernel
theorem dX7_init_171 : decode cX7_init 171 = .ok (.bipush 52, 2) := by decide +kernel
theorem dX7_init_173 : decode cX7_init 173 = .ok (.iastore, 1) := by decide +kernel
theorem dX7_init_174 : decode cX7_init 174 = .ok (.dup, 1) := by decide +kernel
theorem dX7_init_175 : decode cX7_init 175 = .ok (.iconst 5, 1) := by decide +kernel
theorem dX7_init_176 : decode cX7_init 176 = .ok (.bipush 18, 2) := by decide +kernel
theorem dX7_init_178 : decode cX7_init 178 = .ok (.iastore, 1) := by decide +kernel
theorem dX7_init_179 : decode cX7_init 179 = .ok (.dup, 1) := by decide +kernel
theorem dX7_init_180 : decode cX7_init 180 = .ok (.bipush 6, 2) := by decide +kernel
theorem dX7_init_182 : decode cX7_init 182 = .ok (.bipush 36, 2) := by decide +kernel
theorem dX7_init_184 : decode cX7_init 184 = .ok (.iastore, 1) := by decide +kernel
theorem dX7_init_185 : decode cX7_init 185 = .ok (.putfield 22, 3) := by decide +kernel
theorem dX7_init_188 : decode cX7_init 188 = .ok (.aload_n 0, 1) := by decide +kernel
theorem dX7_init_189 : decode cX7_init 189 = .ok (.sipush 4000, 3) := by decide +kernel
theorem dX7_init_192 : decode cX7_init 192 = .ok (.newarray .int, 2) := by decide +kernel
theorem dX7_init_194 : decode cX7_init 194 = .ok (.putfield 25, 3) := by decide +kernel
theorem dX7_init_197 : decode cX7_init 197 = .ok (.aload_n 0, 1) := by decide +kernel
theorem dX7_init_198 : decode cX7_init 198 = .ok (.sipush 512, 3) := by decide +kernel
theorem dX7_init_201 : decode cX7_init 201 = .ok (.putfield 28, 3) := by decide +kernel
theorem dX7_init_204 : decode cX7_init 204 = .ok (.aload_n 0, 1) := by decide +kernel
theorem dX7_init_205 : decode cX7_init 205 = .ok (.iconst 2, 1) := by decide +kernel
theorem dX7_init_206 : decode cX7_init 206 = .ok (.newarray .int, 2) := by decide +kernel
theorem dX7_init_208 : decode cX7_init 208 = .ok (.putfield 32, 3) := by decide +kernel
theorem dX7_init_211 : decode cX7_init 211 = .ok (.aload_n 0, 1) := by decide +kernel
theorem dX7_init_212 : decode cX7_init 212 = .ok (.iconst 2, 1) := by decide +kernel
theorem dX7_init_213 : decode cX7_init 213 = .ok (.newarray .int, 2) := by decide +kernel
theorem dX7_init_215 : decode cX7_init 215 = .ok (.putfield 35, 3) := by decide +kernel
theorem dX7_init_218 : decode cX7_init 218 = .ok (.aload_n 0, 1) := by decide +kernel
theorem dX7_init_219 : decode cX7_init 219 = .ok (.iconst 2, 1) := by decide +kernel
theorem dX7_init_220 : decode cX7_init 220 = .ok (.newarray .int, 2) := by decide +kernel
theorem dX7_init_222 : decode cX7_init 222 = .ok (.putfield 38, 3) := by decide +kernel
theorem dX7_init_225 : decode cX7_init 225 = .ok (.aload_n 0, 1) := by decide +kernel
theorem dX7_init_226 : decode cX7_init 226 = .ok (.bipush 120, 2) := by decide +kernel
theorem dX7_init_228 : decode cX7_init 228 = .ok (.newarray .int, 2) := by decide +kernel
theorem dX7_init_230 : decode cX7_init 230 = .ok (.putfield 41, 3) := by decide +kernel
theorem dX7_init_233 : decode cX7_init 233 = .ok (.aload_n 0, 1) := by decide +kernel
theorem dX7_init_234 : decode cX7_init 234 = .ok (.bipush 120, 2) := by decide +kernel
theorem dX7_init_236 : decode cX7_init 236 = .ok (.newarray .int, 2) := by decide +kernel
theorem dX7_init_238 : decode cX7_init 238 = .ok (.putfield 44, 3) := by decide +kernel
theorem dX7_init_241 : decode cX7_init 241 = .ok (.aload_n 0, 1) := by decide +kernel
theorem dX7_init_242 : decode cX7_init 242 = .ok (.sipush 1200, 3) := by decide +kernel
theorem dX7_init_245 : decode cX7_init 245 = .ok (.newarray .int, 2) := by decide +kernel
theorem dX7_init_247 : decode cX7_init 247 = .ok (.putfield 47, 3) := by decide +kernel
theorem dX7_init_250 : decode cX7_init 250 = .ok (.aload_n 0, 1) := by decide +kernel
theorem dX7_init_251 : decode cX7_init 251 = .ok (.sipush 1200, 3) := by decide +kernel
theorem dX7_init_254 : decode cX7_init 254 = .ok (.newarray .int, 2) := by decide +kernel
theorem dX7_init_256 : decode cX7_init 256 = .ok (.putfield 50, 3) := by decide +kernel
theorem dX7_init_259 : decode cX7_init 259 = .ok (.aload_n 0, 1) := by decide +kernel
theorem dX7_init_260 : decode cX7_init 260 = .ok (.sipush 1200, 3) := by decide +kernel
theorem dX7_init_263 : decode cX7_init 263 = .ok (.newarray .int, 2) := by decide +kernel
theorem dX7_init_265 : decode cX7_init 265 = .ok (.putfield 53, 3) := by decide +kernel
theorem dX7_init_268 : decode cX7_init 268 = .ok (.aload_n 0, 1) := by decide +kernel
theorem dX7_init_269 : decode cX7_init 269 = .ok (.sipush 1200, 3) := by decide +kernel
theorem dX7_init_272 : decode cX7_init 272 = .ok (.newarray .int, 2) := by decide +kernel
theorem dX7_init_274 : decode cX7_init 274 = .ok (.putfield 56, 3) := by decide +kernel
theorem dX7_init_277 : decode cX7_init 277 = .ok (.aload_n 0, 1) := by decide +kernel
theorem dX7_init_278 : decode cX7_init 278 = .ok (.sipush 1200, 3) := by decide +kernel
theorem dX7_init_281 : decode cX7_init 281 = .ok (.newarray .int, 2) := by decide +kernel
theorem dX7_init_283 : decode cX7_init 283 = .ok (.putfield 59, 3) := by decide +kernel
theorem dX7_init_286 : decode cX7_init 286 = .ok (.aload_n 0, 1) := by decide +kernel
theorem dX7_init_287 : decode cX7_init 287 = .ok (.sipush 1200, 3) := by decide +kernel
theorem dX7_init_290 : decode cX7_init 290 = .ok (.newarray .int, 2) := by decide +kernel
theorem dX7_init_292 : decode cX7_init 292 = .ok (.putfield 62, 3) := by decide +kernel
theorem dX7_init_295 : decode cX7_init 295 = .ok (.aload_n 0, 1) := by decide +kernel
theorem dX7_init_296 : decode cX7_init 296 = .ok (.sipush 1200, 3) := by decide +kernel
theorem dX7_init_299 : decode cX7_init 299 = .ok (.newarray .int, 2) := by decide +kernel
theorem dX7_init_301 : decode cX7_init 301 = .ok (.putfield 65, 3) := by decide +kernel
theorem dX7_init_304 : decode cX7_init 304 = .ok (.aload_n 0, 1) := by decide +kernel
theorem dX7_init_305 : decode cX7_init 305 = .ok (.sipush 1200, 3) := by decide +kernel
theorem dX7_init_308 : decode cX7_init 308 = .ok (.newarray .int, 2) := by decide +kernel
theorem dX7_init_310 : decode cX7_init 310 = .ok (.putfield 68, 3) := by decide +kernel
theorem dX7_init_313 : decode cX7_init 313 = .ok (.aload_n 0, 1) := by decide +kernel
theorem dX7_init_314 : decode cX7_init 314 = .ok (.sipush 1200, 3) := by decide +kernel
theorem dX7_init_317 : decode cX7_init 317 = .ok (.newarray .int, 2) := by decide +kernel
theorem dX7_init_319 : decode cX7_init 319 = .ok (.putfield 71, 3) := by decide +kernel
theorem dX7_init_322 : decode cX7_init 322 = .ok (.aload_n 0, 1) := by decide +kernel
theorem dX7_init_323 : decode cX7_init 323 = .ok (.sipush 1200, 3) := by decide +kernel
theorem dX7_init_326 : decode cX7_init 326 = .ok (.newarray .int, 2) := by decide +kernel
theorem dX7_init_328 : decode cX7_init 328 = .ok (.putfield 74, 3) := by decide +kernel
theorem dX7_init_331 : decode cX7_init 331 = .ok (.aload_n 0, 1) := by decide +kernel
theorem dX7_init_332 : decode cX7_init 332 = .ok (.sipush 4800, 3) := by decide +kernel
theorem dX7_init_335 : decode cX7_init 335 = .ok (.newarray .int, 2) := by decide +kernel
theorem dX7_init_337 : decode cX7_init 337 = .ok (.putfield 77, 3) := by decide +kernel
theorem dX7_init_340 : decode cX7_init 340 = .ok (.aload_n 0, 1) := by decide +kernel
theorem dX7_init_341 : decode cX7_init 341 = .ok (.ldc 80, 2) := by decide +kernel
theorem dX7_init_343 : decode cX7_init 343 = .ok (.newarray .int, 2) := by decide +kernel
theorem dX7_init_345 : decode cX7_init 345 = .ok (.putfield 81, 3) := by decide +kernel
theorem dX7_init_348 : decode cX7_init 348 = .ok (.aload_n 0, 1) := by decide +kernel
theorem dX7_init_349 : decode cX7_init 349 = .ok (.bipush 40, 2) := by decide +kernel
theorem dX7_init_351 : decode cX7_init 351 = .ok (.newarray .int, 2) := by decide +kernel
theorem dX7_init_353 : decode cX7_init 353 = .ok (.putfield 84, 3) := by decide +kernel
theorem dX7_init_356 : decode cX7_init 356 = .ok (.aload_n 0, 1) := by decide +kernel
theorem dX7_init_357 : decode cX7_init 357 = .ok (.bipush 40, 2) := by decide +kernel
theorem dX7_init_359 : decode cX7_init 359 = .ok (.newarray .int, 2) := by decide +kernel
theorem dX7_init_361 : decode cX7_init 361 = .ok (.putfield 87, 3) := by decide +kernel
theorem dX7_init_364 : decode cX7_init 364 = .ok (.aload_n 0, 1) := by decide +kernel
theorem dX7_init_365 : decode cX7_init 365 = .ok (.sipush 600, 3) := by decide +kernel
theorem dX7_init_368 : decode cX7_init 368 = .ok (.newarray .int, 2) := by decide +kernel
theorem dX7_init_370 : decode cX7_init 370 = .ok (.putfield 90, 3) := by decide +kernel
theorem dX7_init_373 : decode cX7_init 373 = .ok (.aload_n 0, 1) := by decide +kernel
theorem dX7_init_374 : decode cX7_init 374 = .ok (.sipush 600, 3) := by decide +kernel
theorem dX7_init_377 : decode cX7_init 377 = .ok (.newarray .int, 2) := by decide +kernel
theorem dX7_init_379 : decode cX7_init 379 = .ok (.putfield 93, 3) := by decide +kernel
theorem dX7_init_382 : decode cX7_init 382 = .ok (.aload_n 0, 1) := by decide +kernel
theorem dX7_init_383 : decode cX7_init 383 = .ok (.sipush 600, 3) := by decide +kernel
theorem dX7_init_386 : decode cX7_init 386 = .ok (.newarray .int, 2) := by decide +kernel
theorem dX7_init_388 : decode cX7_init 388 = .ok (.putfield 96, 3) := by decide +kernel
theorem dX7_init_391 : decode cX7_init 391 = .ok (.aload_n 0, 1) := by decide +kernel
theorem dX7_init_392 : decode cX7_init 392 = .ok (.sipush 180, 3) := by decide +kernel
theorem dX7_init_395 : decode cX7_init 395 = .ok (.newarray .int, 2) := by decide +kernel
theorem dX7_init_397 : decode cX7_init 397 = .ok (.putfield 99, 3) := by decide +kernel
theorem dX7_init_400 : decode cX7_init 400 = .ok (.aload_n 0, 1) := by decide +kernel
theorem dX7_init_401 : decode cX7_init 401 = .ok (.sipush 4000, 3) := by decide +kernel
theorem dX7_init_404 : decode cX7_init 404 = .ok (.newarray .int, 2) := by decide +kernel
theorem dX7_init_406 : decode cX7_init 406 = .ok (.putfield 102, 3) := by decide +kernel
theorem dX7_init_409 : decode cX7_init 409 = .ok (.aload_n 0, 1) := by decide +kernel
theorem dX7_init_410 : decode cX7_init 410 = .ok (.sipush 4000, 3) := by decide +kernel
theorem dX7_init_413 : decode cX7_init 413 = .ok (.newarray .int, 2) := by decide +kernel
theorem dX7_init_415 : decode cX7_init 415 = .ok (.putfield 105, 3) := by decide +kernel
theorem dX7_init_418 : decode cX7_init 418 = .ok (.return_, 1) := by decide +kernel
theorem dX7_clear_0 : decode cX7_clear 0 = .ok (.aload_n 0, 1) := by decide +kernel
theorem dX7_clear_1 : decode cX7_clear 1 = .ok (.iconst 0, 1) := by decide +kernel
theorem dX7_clear_2 : decode cX7_clear 2 = .ok (.putfield 108, 3) := by decide +kernel
theorem dX7_clear_5 : decode cX7_clear 5 = .ok (.aload_n 0, 1) := by decide +kernel
theorem dX7_clear_6 : decode cX7_clear 6 = .ok (.sipush 512, 3) := by decide +kernel
theorem dX7_clear_9 : decode cX7_clear 9 = .ok (.putfield 28, 3) := by decide +kernel
theorem dX7_clear_12 : decode cX7_clear 12 = .ok (.aload_n 0, 1) := by decide +kernel
theorem dX7_clear_13 : decode cX7_clear 13 = .ok (.getfield 32, 3) := by decide +kernel
theorem dX7_clear_16 : decode cX7_clear 16 = .ok (.iconst 0, 1) := by decide +kernel
theorem dX7_clear_17 : decode cX7_clear 17 = .ok (.iconst 0, 1) := by decide +kernel
theorem dX7_clear_18 : decode cX7_clear 18 = .ok (.iastore, 1) := by decide +kernel
theorem dX7_clear_19 : decode cX7_clear 19 = .ok (.aload_n 0, 1) := by decide +kernel
theorem dX7_clear_20 : decode cX7_clear 20 = .ok (.getfield 35, 3) := by decide +kernel
theorem dX7_clear_23 : decode cX7_clear 23 = .ok (.iconst 0, 1) := by decide +kernel
theorem dX7_clear_24 : decode cX7_clear 24 = .ok (.iconst 0, 1) := by decide +kernel
theorem dX7_clear_25 : decode cX7_clear 25 = .ok (.iastore, 1) := by decide +kernel
theorem dX7_clear_26 : decode cX7_clear 26 = .ok (.aload_n 0, 1) := by decide +kernel
theorem dX7_clear_27 : decode cX7_clear 27 = .ok (.getfield 38, 3) := by decide +kernel
theorem dX7_clear_30 : decode cX7_clear 30 = .ok (.iconst 0, 1) := by decide +kernel
theorem dX7_clear_31 : decode cX7_clear 31 = .ok (.iconst 0, 1) := by decide +kernel
theorem dX7_clear_32 : decode cX7_clear 32 = .ok (.iastore, 1) := by decide +kernel
theorem dX7_clear_33 : decode cX7_clear 33 = .ok (.return_, 1) := by decide +kernel
theorem dX7_cell_0 : decode cX7_cell 0 = .ok (.iload_n 1, 1) := by decide +kernel
theorem dX7_cell_1 : decode cX7_cell 1 = .ok (.ifCond .lt 9, 3) := by decide +kernel
theorem dX7_cell_4 : decode cX7_cell 4 = .ok (.iload_n 1, 1) := by decide +kernel
theorem dX7_cell_5 : decode cX7_cell 5 = .ok (.bipush 64, 2) := by decide +kernel
theorem dX7_cell_7 : decode cX7_cell 7 = .ok (.if_icmp .le 6, 3) := by decide +kernel
theorem dX7_cell_10 : decode cX7_cell 10 = .ok (.bipush (-2), 2) := by decide +kernel
theorem dX7_cell_12 : decode cX7_cell 12 = .ok (.ireturn, 1) := by decide +kernel
theorem dX7_cell_13 : decode cX7_cell 13 = .ok (.aload_n 0, 1) := by decide +kernel
theorem dX7_cell_14 : decode cX7_cell 14 = .ok (.getfield 108, 3) := by decide +kernel
theorem dX7_cell_17 : decode cX7_cell 17 = .ok (.sipush 4000, 3) := by decide +kernel
theorem dX7_cell_20 : decode cX7_cell 20 = .ok (.if_icmp .ne 6, 3) := by decide +kernel
theorem dX7_cell_23 : decode cX7_cell 23 = .ok (.bipush (-4), 2) := by decide +kernel
theorem dX7_cell_25 : decode cX7_cell 25 = .ok (.ireturn, 1) := by decide +kernel
theorem dX7_cell_26 : decode cX7_cell 26 = .ok (.aload_n 0, 1) := by decide +kernel
theorem dX7_cell_27 : decode cX7_cell 27 = .ok (.getfield 25, 3) := by decide +kernel
theorem dX7_cell_30 : decode cX7_cell 30 = .ok (.aload_n 0, 1) := by decide +kernel
theorem dX7_cell_31 : decode cX7_cell 31 = .ok (.getfield 108, 3) := by decide +kernel
theorem dX7_cell_34 : decode cX7_cell 34 = .ok (.iload_n 1, 1) := by decide +kernel
theorem dX7_cell_35 : decode cX7_cell 35 = .ok (.iastore, 1) := by decide +kernel
theorem dX7_cell_36 : decode cX7_cell 36 = .ok (.aload_n 0, 1) := by decide +kernel
theorem dX7_cell_37 : decode cX7_cell 37 = .ok (.dup, 1) := by decide +kernel
theorem dX7_cell_38 : decode cX7_cell 38 = .ok (.getfield 108, 3) := by decide +kernel
theorem dX7_cell_41 : decode cX7_cell 41 = .ok (.iconst 1, 1) := by decide +kernel
theorem dX7_cell_42 : decode cX7_cell 42 = .ok (.iadd, 1) := by decide +kernel
theorem dX7_cell_43 : decode cX7_cell 43 = .ok (.putfield 108, 3) := by decide +kernel
theorem dX7_cell_46 : decode cX7_cell 46 = .ok (.aload_n 0, 1) := by decide +kernel
theorem dX7_cell_47 : decode cX7_cell 47 = .ok (.getfield 108, 3) := by decide +kernel
theorem dX7_cell_50 : decode cX7_cell 50 = .ok (.ireturn, 1) := by decide +kernel
theorem dX7_more_0 : decode cX7_more 0 = .ok (.iconst 0, 1) := by decide +kernel
theorem dX7_more_1 : decode cX7_more 1 = .ok (.istore_n 3, 1) := by decide +kernel
theorem dX7_more_2 : decode cX7_more 2 = .ok (.iconst 0, 1) := by decide +kernel
theorem dX7_more_3 : decode cX7_more 3 = .ok (.istore 4, 2) := by decide +kernel
theorem dX7_more_5 : decode cX7_more 5 = .ok (.iload 4, 2) := by decide +kernel
theorem dX7_more_7 : decode cX7_more 7 = .ok (.bipush 8, 2) := by decide +kernel
theorem dX7_more_9 : decode cX7_more 9 = .ok (.if_icmp .ge 62, 3) := by decide +kernel
theorem dX7_more_12 : decode cX7_more 12 = .ok (.lload_n 1, 1) := by decide +kernel
theorem dX7_more_13 : decode cX7_more 13 = .ok (.bipush 56, 2) := by decide +kernel
theorem dX7_more_15 : decode cX7_more 15 = .ok (.bipush 8, 2) := by decide +kernel
theorem dX7_more_17 : decode cX7_more 17 = .ok (.iload 4, 2) := by decide +kernel
theorem dX7_more_19 : decode cX7_more 19 = .ok (.imul, 1) := by decide +kernel
theorem dX7_more_20 : decode cX7_more 20 = .ok (.isub, 1) := by decide +kernel
theorem dX7_more_21 : decode cX7_more 21 = .ok (.lshr, 1) := by decide +kernel
theorem dX7_more_22 : decode cX7_more 22 = .ok (.l2i, 1) := by decide +kernel
theorem dX7_more_23 : decode cX7_more 23 = .ok (.sipush 255, 3) := by decide +kernel
theorem dX7_more_26 : decode cX7_more 26 = .ok (.iand, 1) := by decide +kernel
theorem dX7_more_27 : decode cX7_more 27 = .ok (.istore 5, 2) := by decide +kernel
theorem dX7_more_29 : decode cX7_more 29 = .ok (.iload 5, 2) := by decide +kernel
theorem dX7_more_31 : decode cX7_more 31 = .ok (.ifCond .eq 21, 3) := by decide +kernel
theorem dX7_more_34 : decode cX7_more 34 = .ok (.iload 5, 2) := by decide +kernel
theorem dX7_more_36 : decode cX7_more 36 = .ok (.bipush 64, 2) := by decide +kernel
theorem dX7_more_38 : decode cX7_more 38 = .ok (.if_icmp .lt 11, 3) := by decide +kernel
theorem dX7_more_41 : decode cX7_more 41 = .ok (.iload 5, 2) := by decide +kernel
theorem dX7_more_43 : decode cX7_more 43 = .ok (.sipush 128, 3) := by decide +kernel
theorem dX7_more_46 : decode cX7_more 46 = .ok (.if_icmp .le 6, 3) := by decide +kernel
theorem dX7_more_49 : decode cX7_more 49 = .ok (.bipush (-2), 2) := by decide +kernel
theorem dX7_more_51 : decode cX7_more 51 = .ok (.ireturn, 1) := by decide +kernel
theorem dX7_more_52 : decode cX7_more 52 = .ok (.iload_n 3, 1) := by decide +kernel
theorem dX7_more_53 : decode cX7_more 53 = .ok (.iload 5, 2) := by decide +kernel
theorem dX7_more_55 : decode cX7_more 55 = .ok (.ifCond .eq 7, 3) := by decide +kernel
theorem dX7_more_58 : decode cX7_more 58 = .ok (.iconst 1, 1) := by decide +kernel
theorem dX7_more_59 : decode cX7_more 59 = .ok (.goto 4, 3) := by decide +kernel
theorem dX7_more_62 : decode cX7_more 62 = .ok (.iconst 0, 1) := by decide +kernel
theorem dX7_more_63 : decode cX7_more 63 = .ok (.iadd, 1) := by decide +kernel
theorem dX7_more_64 : decode cX7_more 64 = .ok (.istore_n 3, 1) := by decide +kernel
theorem dX7_more_65 : decode cX7_more 65 = .ok (.iinc 4 1, 3) := by decide +kernel
theorem dX7_more_68 : decode cX7_more 68 = .ok (.goto (-63), 3) := by decide +kernel
theorem dX7_more_71 : decode cX7_more 71 = .ok (.aload_n 0, 1) := by decide +kernel
theorem dX7_more_72 : decode cX7_more 72 = .ok (.getfield 108, 3) := by decide +kernel
theorem dX7_more_75 : decode cX7_more 75 = .ok (.iload_n 3, 1) := by decide +kernel
theorem dX7_more_76 : decode cX7_more 76 = .ok (.iadd, 1) := by decide +kernel
theorem dX7_more_77 : decode cX7_more 77 = .ok (.sipush 4000, 3) := by decide +kernel
theorem dX7_more_80 : decode cX7_more 80 = .ok (.if_icmp .le 6, 3) := by decide +kernel
theorem dX7_more_83 : decode cX7_more 83 = .ok (.bipush (-4), 2) := by decide +kernel
theorem dX7_more_85 : decode cX7_more 85 = .ok (.ireturn, 1) := by decide +kernel
theorem dX7_more_86 : decode cX7_more 86 = .ok (.iconst 0, 1) := by decide +kernel
theorem dX7_more_87 : decode cX7_more 87 = .ok (.istore 4, 2) := by decide +kernel
theorem dX7_more_89 : decode cX7_more 89 = .ok (.iload 4, 2) := by decide +kernel
theorem dX7_more_91 : decode cX7_more 91 = .ok (.bipush 8, 2) := by decide +kernel
theorem dX7_more_93 : decode cX7_more 93 = .ok (.if_icmp .ge 55, 3) := by decide +kernel
theorem dX7_more_96 : decode cX7_more 96 = .ok (.lload_n 1, 1) := by decide +kernel
theorem dX7_more_97 : decode cX7_more 97 = .ok (.bipush 56, 2) := by decide +kernel
theorem dX7_more_99 : decode cX7_more 99 = .ok (.bipush 8, 2) := by decide +kernel
theorem dX7_more_101 : decode cX7_more 101 = .ok (.iload 4, 2) := by decide +kernel
theorem dX7_more_103 : decode cX7_more 103 = .ok (.imul, 1) := by decide +kernel
theorem dX7_more_104 : decode cX7_more 104 = .ok (.isub, 1) := by decide +kernel
theorem dX7_more_105 : decode cX7_more 105 = .ok (.lshr, 1) := by decide +kernel
theorem dX7_more_106 : decode cX7_more 106 = .ok (.l2i, 1) := by decide +kernel
theorem dX7_more_107 : decode cX7_more 107 = .ok (.sipush 255, 3) := by decide +kernel
theorem dX7_more_110 : decode cX7_more 110 = .ok (.iand, 1) := by decide +kernel
theorem dX7_more_111 : decode cX7_more 111 = .ok (.istore 5, 2) := by decide +kernel
theorem dX7_more_113 : decode cX7_more 113 = .ok (.iload 5, 2) := by decide +kernel
theorem dX7_more_115 : decode cX7_more 115 = .ok (.ifCond .eq 27, 3) := by decide +kernel
theorem dX7_more_118 : decode cX7_more 118 = .ok (.aload_n 0, 1) := by decide +kernel
theorem dX7_more_119 : decode cX7_more 119 = .ok (.getfield 25, 3) := by decide +kernel
theorem dX7_more_122 : decode cX7_more 122 = .ok (.aload_n 0, 1) := by decide +kernel
theorem dX7_more_123 : decode cX7_more 123 = .ok (.getfield 108, 3) := by decide +kernel
theorem dX7_more_126 : decode cX7_more 126 = .ok (.iload 5, 2) := by decide +kernel
theorem dX7_more_128 : decode cX7_more 128 = .ok (.bipush 64, 2) := by decide +kernel
theorem dX7_more_130 : decode cX7_more 130 = .ok (.isub, 1) := by decide +kernel
theorem dX7_more_131 : decode cX7_more 131 = .ok (.iastore, 1) := by decide +kernel
theorem dX7_more_132 : decode cX7_more 132 = .ok (.aload_n 0, 1) := by decide +kernel
theorem dX7_more_133 : decode cX7_more 133 = .ok (.dup, 1) := by decide +kernel
theorem dX7_more_134 : decode cX7_more 134 = .ok (.getfield 108, 3) := by decide +kernel
theorem dX7_more_137 : decode cX7_more 137 = .ok (.iconst 1, 1) := by decide +kernel
theorem dX7_more_138 : decode cX7_more 138 = .ok (.iadd, 1) := by decide +kernel
theorem dX7_more_139 : decode cX7_more 139 = .ok (.putfield 108, 3) := by decide +kernel
theorem dX7_more_142 : decode cX7_more 142 = .ok (.iinc 4 1, 3) := by decide +kernel
theorem dX7_more_145 : decode cX7_more 145 = .ok (.goto (-56), 3) := by decide +kernel
theorem dX7_more_148 : decode cX7_more 148 = .ok (.aload_n 0, 1) := by decide +kernel
theorem dX7_more_149 : decode cX7_more 149 = .ok (.getfield 108, 3) := by decide +kernel
theorem dX7_more_152 : decode cX7_more 152 = .ok (.ireturn, 1) := by decide +kernel
theorem dX7_cut_0 : decode cX7_cut 0 = .ok (.iload_n 1, 1) := by decide +kernel
theorem dX7_cut_1 : decode cX7_cut 1 = .ok (.ifCond .lt 11, 3) := by decide +kernel
theorem dX7_cut_4 : decode cX7_cut 4 = .ok (.iload_n 1, 1) := by decide +kernel
theorem dX7_cut_5 : decode cX7_cut 5 = .ok (.aload_n 0, 1) := by decide +kernel
theorem dX7_cut_6 : decode cX7_cut 6 = .ok (.getfield 108, 3) := by decide +kernel
theorem dX7_cut_9 : decode cX7_cut 9 = .ok (.if_icmp .le 6, 3) := by decide +kernel
theorem dX7_cut_12 : decode cX7_cut 12 = .ok (.bipush (-2), 2) := by decide +kernel
theorem dX7_cut_14 : decode cX7_cut 14 = .ok (.ireturn, 1) := by decide +kernel
theorem dX7_cut_15 : decode cX7_cut 15 = .ok (.aload_n 0, 1) := by decide +kernel
theorem dX7_cut_16 : decode cX7_cut 16 = .ok (.getfield 108, 3) := by decide +kernel
theorem dX7_cut_19 : decode cX7_cut 19 = .ok (.iload_n 1, 1) := by decide +kernel
theorem dX7_cut_20 : decode cX7_cut 20 = .ok (.isub, 1) := by decide +kernel
theorem dX7_cut_21 : decode cX7_cut 21 = .ok (.istore_n 2, 1) := by decide +kernel
theorem dX7_cut_22 : decode cX7_cut 22 = .ok (.aload_n 0, 1) := by decide +kernel
theorem dX7_cut_23 : decode cX7_cut 23 = .ok (.iload_n 1, 1) := by decide +kernel
theorem dX7_cut_24 : decode cX7_cut 24 = .ok (.putfield 108, 3) := by decide +kernel
theorem dX7_cut_27 : decode cX7_cut 27 = .ok (.iload_n 2, 1) := by decide +kernel
theorem dX7_cut_28 : decode cX7_cut 28 = .ok (.ireturn, 1) := by decide +kernel
theorem dX7_at_0 : decode cX7_at 0 = .ok (.iload_n 1, 1) := by decide +kernel
theorem dX7_at_1 : decode cX7_at 1 = .ok (.ifCond .lt 20, 3) := by decide +kernel
theorem dX7_at_4 : decode cX7_at 4 = .ok (.iload_n 1, 1) := by decide +kernel
theorem dX7_at_5 : decode cX7_at 5 = .ok (.aload_n 0, 1) := by decide +kernel
theorem dX7_at_6 : decode cX7_at 6 = .ok (.getfield 108, 3) := by decide +kernel
theorem dX7_at_9 : decode cX7_at 9 = .ok (.if_icmp .ge 12, 3) := by decide +kernel
theorem dX7_at_12 : decode cX7_at 12 = .ok (.aload_n 0, 1) := by decide +kernel
theorem dX7_at_13 : decode cX7_at 13 = .ok (.getfield 25, 3) := by decide +kernel
theorem dX7_at_16 : decode cX7_at 16 = .ok (.iload_n 1, 1) := by decide +kernel
theorem dX7_at_17 : decode cX7_at 17 = .ok (.iaload, 1) := by decide +kernel
theorem dX7_at_18 : decode cX7_at 18 = .ok (.goto 4, 3) := by decide +kernel
theorem dX7_at_21 : decode cX7_at 21 = .ok (.iconst (-1), 1) := by decide +kernel
theorem dX7_at_22 : decode cX7_at 22 = .ok (.ireturn, 1) := by decide +kernel
theorem dX7_lasts_0 : decode cX7_lasts 0 = .ok (.iload_n 1, 1) := by decide +kernel
theorem dX7_lasts_1 : decode cX7_lasts 1 = .ok (.ifCond .ne 11, 3) := by decide +kernel
theorem dX7_lasts_4 : decode cX7_lasts 4 = .ok (.sipush 512, 3) := by decide +kernel
theorem dX7_lasts_7 : decode cX7_lasts 7 = .ok (.iload_n 0, 1) := by decide +kernel
theorem dX7_lasts_8 : decode cX7_lasts 8 = .ok (.ishr, 1) := by decide +kernel
theorem dX7_lasts_9 : decode cX7_lasts 9 = .ok (.goto 7, 3) := by decide +kernel
theorem dX7_lasts_12 : decode cX7_lasts 12 = .ok (.bipush 32, 2) := by decide +kernel
theorem dX7_lasts_14 : decode cX7_lasts 14 = .ok (.iload_n 0, 1) := by decide +kernel
theorem dX7_lasts_15 : decode cX7_lasts 15 = .ok (.ishr, 1) := by decide +kernel
theorem dX7_lasts_16 : decode cX7_lasts 16 = .ok (.istore_n 3, 1) := by decide +kernel
theorem dX7_lasts_17 : decode cX7_lasts 17 = .ok (.iload_n 3, 1) := by decide +kernel
theorem dX7_lasts_18 : decode cX7_lasts 18 = .ok (.iload_n 2, 1) := by decide +kernel
theorem dX7_lasts_19 : decode cX7_lasts 19 = .ok (.ifCond .le 9, 3) := by decide +kernel
theorem dX7_lasts_22 : decode cX7_lasts 22 = .ok (.iload_n 3, 1) := by decide +kernel
theorem dX7_lasts_23 : decode cX7_lasts 23 = .ok (.iconst 2, 1) := by decide +kernel
theorem dX7_lasts_24 : decode cX7_lasts 24 = .ok (.idiv, 1) := by decide +kernel
theorem dX7_lasts_25 : decode cX7_lasts 25 = .ok (.goto 4, 3) := by decide +kernel
theorem dX7_lasts_28 : decode cX7_lasts 28 = .ok (.iconst 0, 1) := by decide +kernel
theorem dX7_lasts_29 : decode cX7_lasts 29 = .ok (.iadd, 1) := by decide +kernel
theorem dX7_lasts_30 : decode cX7_lasts 30 = .ok (.iload_n 2, 1) := by decide +kernel
theorem dX7_lasts_31 : decode cX7_lasts 31 = .ok (.iconst 1, 1) := by decide +kernel
theorem dX7_lasts_32 : decode cX7_lasts 32 = .ok (.if_icmp .le 9, 3) := by decide +kernel
theorem dX7_lasts_35 : decode cX7_lasts 35 = .ok (.iload_n 3, 1) := by decide +kernel
theorem dX7_lasts_36 : decode cX7_lasts 36 = .ok (.iconst 4, 1) := by decide +kernel
theorem dX7_lasts_37 : decode cX7_lasts 37 = .ok (.idiv, 1) := by decide +kernel
theorem dX7_lasts_38 : decode cX7_lasts 38 = .ok (.goto 4, 3) := by decide +kernel
theorem dX7_lasts_41 : decode cX7_lasts 41 = .ok (.iconst 0, 1) := by decide +kernel
theorem dX7_lasts_42 : decode cX7_lasts 42 = .ok (.iadd, 1) := by decide +kernel
theorem dX7_lasts_43 : decode cX7_lasts 43 = .ok (.ireturn, 1) := by decide +kernel
theorem dX7_lastsOf_0 : decode cX7_lastsOf 0 = .ok (.aload_n 0, 1) := by decide +kernel
theorem dX7_lastsOf_1 : decode cX7_lastsOf 1 = .ok (.getfield 62, 3) := by decide +kernel
theorem dX7_lastsOf_4 : decode cX7_lastsOf 4 = .ok (.iload_n 1, 1) := by decide +kernel
theorem dX7_lastsOf_5 : decode cX7_lastsOf 5 = .ok (.iaload, 1) := by decide +kernel
theorem dX7_lastsOf_6 : decode cX7_lastsOf 6 = .ok (.iconst 2, 1) := by decide +kernel
theorem dX7_lastsOf_7 : decode cX7_lastsOf 7 = .ok (.if_icmp .ne 10, 3) := by decide +kernel
theorem dX7_lastsOf_10 : decode cX7_lastsOf 10 = .ok (.aload_n 0, 1) := by decide +kernel
theorem dX7_lastsOf_11 : decode cX7_lastsOf 11 = .ok (.getfield 28, 3) := by decide +kernel
theorem dX7_lastsOf_14 : decode cX7_lastsOf 14 = .ok (.goto 24, 3) := by decide +kernel
theorem dX7_lastsOf_17 : decode cX7_lastsOf 17 = .ok (.aload_n 0, 1) := by decide +kernel
theorem dX7_lastsOf_18 : decode cX7_lastsOf 18 = .ok (.getfield 59, 3) := by decide +kernel
theorem dX7_lastsOf_21 : decode cX7_lastsOf 21 = .ok (.iload_n 1, 1) := by decide +kernel
theorem dX7_lastsOf_22 : decode cX7_lastsOf 22 = .ok (.iaload, 1) := by decide +kernel
theorem dX7_lastsOf_23 : decode cX7_lastsOf 23 = .ok (.aload_n 0, 1) := by decide +kernel
theorem dX7_lastsOf_24 : decode cX7_lastsOf 24 = .ok (.getfield 62, 3) := by decide +kernel
theorem dX7_lastsOf_27 : decode cX7_lastsOf 27 = .ok (.iload_n 1, 1) := by decide +kernel
theorem dX7_lastsOf_28 : decode cX7_lastsOf 28 = .ok (.iaload, 1) := by decide +kernel
theorem dX7_lastsOf_29 : decode cX7_lastsOf 29 = .ok (.aload_n 0, 1) := by decide +kernel
theorem dX7_lastsOf_30 : decode cX7_lastsOf 30 = .ok (.getfield 65, 3) := by decide +kernel
theorem dX7_lastsOf_33 : decode cX7_lastsOf 33 = .ok (.iload_n 1, 1) := by decide +kernel
theorem dX7_lastsOf_34 : decode cX7_lastsOf 34 = .ok (.iaload, 1) := by decide +kernel
theorem dX7_lastsOf_35 : decode cX7_lastsOf 35 = .ok (.invokestatic 111, 3) := by decide +kernel
theorem dX7_lastsOf_38 : decode cX7_lastsOf 38 = .ok (.ireturn, 1) := by decide +kernel
theorem dX7_voiceLasts_0 : decode cX7_voiceLasts 0 = .ok (.iconst 0, 1) := by decide +kernel
theorem dX7_voiceLasts_1 : decode cX7_voiceLasts 1 = .ok (.istore 4, 2) := by decide +kernel
theorem dX7_voiceLasts_3 : decode cX7_voiceLasts 3 = .ok (.iload_n 1, 1) := by decide +kernel
theorem dX7_voiceLasts_4 : decode cX7_voiceLasts 4 = .ok (.sipush 600, 3) := by decide +kernel
theorem dX7_voiceLasts_7 : decode cX7_voiceLasts 7 = .ok (.imul, 1) := by decide +kernel
theorem dX7_voiceLasts_8 : decode cX7_voiceLasts 8 = .ok (.istore 5, 2) := by decide +kernel
theorem dX7_voiceLasts_10 : decode cX7_voiceLasts 10 = .ok (.iload 5, 2) := by decide +kernel
theorem dX7_voiceLasts_12 : decode cX7_voiceLasts 12 = .ok (.iload_n 1, 1) := by decide +kernel
theorem dX7_voiceLasts_13 : decode cX7_voiceLasts 13 = .ok (.sipush 600, 3) := by decide +kernel
theorem dX7_voiceLasts_16 : decode cX7_voiceLasts 16 = .ok (.imul, 1) := by decide +kernel
theorem dX7_voiceLasts_17 : decode cX7_voiceLasts 17 = .ok (.aload_n 0, 1) := by decide +kernel
theorem dX7_voiceLasts_18 : decode cX7_voiceLasts 18 = .ok (.getfield 35, 3) := by decide +kernel
theorem dX7_voiceLasts_21 : decode cX7_voiceLasts 21 = .ok (.iload_n 1, 1) := by decide +kernel
theorem dX7_voiceLasts_22 : decode cX7_voiceLasts 22 = .ok (.iaload, 1) := by decide +kernel
theorem dX7_voiceLasts_23 : decode cX7_voiceLasts 23 = .ok (.iadd, 1) := by decide +kernel
theorem dX7_voiceLasts_24 : decode cX7_voiceLasts 24 = .ok (.if_icmp .ge 46, 3) := by decide +kernel
theorem dX7_voiceLasts_27 : decode cX7_voiceLasts 27 = .ok (.iload 4, 2) := by decide +kernel
theorem dX7_voiceLasts_29 : decode cX7_voiceLasts 29 = .ok (.aload_n 0, 1) := by decide +kernel
theorem dX7_voiceLasts_30 : decode cX7_voiceLasts 30 = .ok (.getfield 47, 3) := by decide +kernel
theorem dX7_voiceLasts_33 : decode cX7_voiceLasts 33 = .ok (.iload 5, 2) := by decide +kernel
theorem dX7_voiceLasts_35 : decode cX7_voiceLasts 35 = .ok (.iaload, 1) := by decide +kernel
theorem dX7_voiceLasts_36 : decode cX7_voiceLasts 36 = .ok (.iload_n 2, 1) := by decide +kernel
theorem dX7_voiceLasts_37 : decode cX7_voiceLasts 37 = .ok (.if_icmp .ne 23, 3) := by decide +kernel
theorem dX7_voiceLasts_40 : decode cX7_voiceLasts 40 = .ok (.aload_n 0, 1) := by decide +kernel
theorem dX7_voiceLasts_41 : decode cX7_voiceLasts 41 = .ok (.getfield 50, 3) := by decide +kernel
theorem dX7_voiceLasts_44 : decode cX7_voiceLasts 44 = .ok (.iload 5, 2) := by decide +kernel
theorem dX7_voiceLasts_46 : decode cX7_voiceLasts 46 = .ok (.iaload, 1) := by decide +kernel
theorem dX7_voiceLasts_47 : decode cX7_voiceLasts 47 = .ok (.iload_n 3, 1) := by decide +kernel
theorem dX7_voiceLasts_48 : decode cX7_voiceLasts 48 = .ok (.if_icmp .ne 12, 3) := by decide +kernel
theorem dX7_voiceLasts_51 : decode cX7_voiceLasts 51 = .ok (.aload_n 0, 1) := by decide +kernel
theorem dX7_voiceLasts_52 : decode cX7_voiceLasts 52 = .ok (.iload 5, 2) := by decide +kernel
theorem dX7_voiceLasts_54 : decode cX7_voiceLasts 54 = .ok (.invokevirtual 115, 3) := by decide +kernel
theorem dX7_voiceLasts_57 : decode cX7_voiceLasts 57 = .ok (.goto 4, 3) := by decide +kernel
theorem dX7_voiceLasts_60 : decode cX7_voiceLasts 60 = .ok (.iconst 0, 1) := by decide +kernel
theorem dX7_voiceLasts_61 : decode cX7_voiceLasts 61 = .ok (.iadd, 1) := by decide +kernel
theorem dX7_voiceLasts_62 : decode cX7_voiceLasts 62 = .ok (.istore 4, 2) := by decide +kernel
theorem dX7_voiceLasts_64 : decode cX7_voiceLasts 64 = .ok (.iinc 5 1, 3) := by decide +kernel
theorem dX7_voiceLasts_67 : decode cX7_voiceLasts 67 = .ok (.goto (-57), 3) := by decide +kernel
theorem dX7_voiceLasts_70 : decode cX7_voiceLasts 70 = .ok (.iload 4, 2) := by decide +kernel
theorem dX7_voiceLasts_72 : decode cX7_voiceLasts 72 = .ok (.ireturn, 1) := by decide +kernel
theorem dX7_voiceSize_0 : decode cX7_voiceSize 0 = .ok (.iconst 0, 1) := by decide +kernel
theorem dX7_voiceSize_1 : decode cX7_voiceSize 1 = .ok (.istore 4, 2) := by decide +kernel
theorem dX7_voiceSize_3 : decode cX7_voiceSize 3 = .ok (.iload_n 1, 1) := by decide +kernel
theorem dX7_voiceSize_4 : decode cX7_voiceSize 4 = .ok (.sipush 600, 3) := by decide +kernel
theorem dX7_voiceSize_7 : decode cX7_voiceSize 7 = .ok (.imul, 1) := by decide +kernel
theorem dX7_voiceSize_8 : decode cX7_voiceSize 8 = .ok (.istore 5, 2) := by decide +kernel
theorem dX7_voiceSize_10 : decode cX7_voiceSize 10 = .ok (.iload 5, 2) := by decide +kernel
theorem dX7_voiceSize_12 : decode cX7_voiceSize 12 = .ok (.iload_n 1, 1) := by decide +kernel
theorem dX7_voiceSize_13 : decode cX7_voiceSize 13 = .ok (.sipush 600, 3) := by decide +kernel
theorem dX7_voiceSize_16 : decode cX7_voiceSize 16 = .ok (.imul, 1) := by decide +kernel
theorem dX7_voiceSize_17 : decode cX7_voiceSize 17 = .ok (.aload_n 0, 1) := by decide +kernel
theorem dX7_voiceSize_18 : decode cX7_voiceSize 18 = .ok (.getfield 35, 3) := by decide +kernel
theorem dX7_voiceSize_21 : decode cX7_voiceSize 21 = .ok (.iload_n 1, 1) := by decide +kernel
theorem dX7_voiceSize_22 : decode cX7_voiceSize 22 = .ok (.iaload, 1) := by decide +kernel
theorem dX7_voiceSize_23 : decode cX7_voiceSize 23 = .ok (.iadd, 1) := by decide +kernel
theorem dX7_voiceSize_24 : decode cX7_voiceSize 24 = .ok (.if_icmp .ge 41, 3) := by decide +kernel
theorem dX7_voiceSize_27 : decode cX7_voiceSize 27 = .ok (.iload 4, 2) := by decide +kernel
theorem dX7_voiceSize_29 : decode cX7_voiceSize 29 = .ok (.aload_n 0, 1) := by decide +kernel
theorem dX7_voiceSize_30 : decode cX7_voiceSize 30 = .ok (.getfield 47, 3) := by decide +kernel
theorem dX7_voiceSize_33 : decode cX7_voiceSize 33 = .ok (.iload 5, 2) := by decide +kernel
theorem dX7_voiceSize_35 : decode cX7_voiceSize 35 = .ok (.iaload, 1) := by decide +kernel
theorem dX7_voiceSize_36 : decode cX7_voiceSize 36 = .ok (.iload_n 2, 1) := by decide +kernel
theorem dX7_voiceSize_37 : decode cX7_voiceSize 37 = .ok (.if_icmp .ne 18, 3) := by decide +kernel
theorem dX7_voiceSize_40 : decode cX7_voiceSize 40 = .ok (.aload_n 0, 1) := by decide +kernel
theorem dX7_voiceSize_41 : decode cX7_voiceSize 41 = .ok (.getfield 50, 3) := by decide +kernel
theorem dX7_voiceSize_44 : decode cX7_voiceSize 44 = .ok (.iload 5, 2) := by decide +kernel
theorem dX7_voiceSize_46 : decode cX7_voiceSize 46 = .ok (.iaload, 1) := by decide +kernel
theorem dX7_voiceSize_47 : decode cX7_voiceSize 47 = .ok (.iload_n 3, 1) := by decide +kernel
theorem dX7_voiceSize_48 : decode cX7_voiceSize 48 = .ok (.if_icmp .ne 7, 3) := by decide +kernel
theorem dX7_voiceSize_51 : decode cX7_voiceSize 51 = .ok (.iconst 1, 1) := by decide +kernel
theorem dX7_voiceSize_52 : decode cX7_voiceSize 52 = .ok (.goto 4, 3) := by decide +kernel
theorem dX7_voiceSize_55 : decode cX7_voiceSize 55 = .ok (.iconst 0, 1) := by decide +kernel
theorem dX7_voiceSize_56 : decode cX7_voiceSize 56 = .ok (.iadd, 1) := by decide +kernel
theorem dX7_voiceSize_57 : decode cX7_voiceSize 57 = .ok (.istore 4, 2) := by decide +kernel
theorem dX7_voiceSize_59 : decode cX7_voiceSize 59 = .ok (.iinc 5 1, 3) := by decide +kernel
theorem dX7_voiceSize_62 : decode cX7_voiceSize 62 = .ok (.goto (-52), 3) := by decide +kernel
theorem dX7_voiceSize_65 : decode cX7_voiceSize 65 = .ok (.iload 4, 2) := by decide +kernel
theorem dX7_voiceSize_67 : decode cX7_voiceSize 67 = .ok (.ireturn, 1) := by decide +kernel
theorem dX7_voiceFirst_0 : decode cX7_voiceFirst 0 = .ok (.iconst (-1), 1) := by decide +kernel
theorem dX7_voiceFirst_1 : decode cX7_voiceFirst 1 = .ok (.istore 4, 2) := by decide +kernel
theorem dX7_voiceFirst_3 : decode cX7_voiceFirst 3 = .ok (.iload_n 1, 1) := by decide +kernel
theorem dX7_voiceFirst_4 : decode cX7_voiceFirst 4 = .ok (.sipush 600, 3) := by decide +kernel
theorem dX7_voiceFirst_7 : decode cX7_voiceFirst 7 = .ok (.imul, 1) := by decide +kernel
theorem dX7_voiceFirst_8 : decode cX7_voiceFirst 8 = .ok (.aload_n 0, 1) := by decide +kernel
theorem dX7_voiceFirst_9 : decode cX7_voiceFirst 9 = .ok (.getfield 35, 3) := by decide +kernel
theorem dX7_voiceFirst_12 : decode cX7_voiceFirst 12 = .ok (.iload_n 1, 1) := by decide +kernel
theorem dX7_voiceFirst_13 : decode cX7_voiceFirst 13 = .ok (.iaload, 1) := by decide +kernel
theorem dX7_voiceFirst_14 : decode cX7_voiceFirst 14 = .ok (.iadd, 1) := by decide +kernel
theorem dX7_voiceFirst_15 : decode cX7_voiceFirst 15 = .ok (.iconst 1, 1) := by decide +kernel
theorem dX7_voiceFirst_16 : decode cX7_voiceFirst 16 = .ok (.isub, 1) := by decide +kernel
theorem dX7_voiceFirst_17 : decode cX7_voiceFirst 17 = .ok (.istore 5, 2) := by decide +kernel
theorem dX7_voiceFirst_19 : decode cX7_voiceFirst 19 = .ok (.iload 5, 2) := by decide +kernel
theorem dX7_voiceFirst_21 : decode cX7_voiceFirst 21 = .ok (.iload_n 1, 1) := by decide +kernel
theorem dX7_voiceFirst_22 : decode cX7_voiceFirst 22 = .ok (.sipush 600, 3) := by decide +kernel
theorem dX7_voiceFirst_25 : decode cX7_voiceFirst 25 = .ok (.imul, 1) := by decide +kernel
theorem dX7_voiceFirst_26 : decode cX7_voiceFirst 26 = .ok (.if_icmp .lt 40, 3) := by decide +kernel
theorem dX7_voiceFirst_29 : decode cX7_voiceFirst 29 = .ok (.aload_n 0, 1) := by decide +kernel
theorem dX7_voiceFirst_30 : decode cX7_voiceFirst 30 = .ok (.getfield 47, 3) := by decide +kernel
theorem dX7_voiceFirst_33 : decode cX7_voiceFirst 33 = .ok (.iload 5, 2) := by decide +kernel
theorem dX7_voiceFirst_35 : decode cX7_voiceFirst 35 = .ok (.iaload, 1) := by decide +kernel
theorem dX7_voiceFirst_36 : decode cX7_voiceFirst 36 = .ok (.iload_n 2, 1) := by decide +kernel
theorem dX7_voiceFirst_37 : decode cX7_voiceFirst 37 = .ok (.if_icmp .ne 19, 3) := by decide +kernel
theorem dX7_voiceFirst_40 : decode cX7_voiceFirst 40 = .ok (.aload_n 0, 1) := by decide +kernel
theorem dX7_voiceFirst_41 : decode cX7_voiceFirst 41 = .ok (.getfield 50, 3) := by decide +kernel
theorem dX7_voiceFirst_44 : decode cX7_voiceFirst 44 = .ok (.iload 5, 2) := by decide +kernel
theorem dX7_voiceFirst_46 : decode cX7_voiceFirst 46 = .ok (.iaload, 1) := by decide +kernel
theorem dX7_voiceFirst_47 : decode cX7_voiceFirst 47 = .ok (.iload_n 3, 1) := by decide +kernel
theorem dX7_voiceFirst_48 : decode cX7_voiceFirst 48 = .ok (.if_icmp .ne 8, 3) := by decide +kernel
theorem dX7_voiceFirst_51 : decode cX7_voiceFirst 51 = .ok (.iload 5, 2) := by decide +kernel
theorem dX7_voiceFirst_53 : decode cX7_voiceFirst 53 = .ok (.goto 5, 3) := by decide +kernel
theorem dX7_voiceFirst_56 : decode cX7_voiceFirst 56 = .ok (.iload 4, 2) := by decide +kernel
theorem dX7_voiceFirst_58 : decode cX7_voiceFirst 58 = .ok (.istore 4, 2) := by decide +kernel
theorem dX7_voiceFirst_60 : decode cX7_voiceFirst 60 = .ok (.iinc 5 (-1), 3) := by decide +kernel
theorem dX7_voiceFirst_63 : decode cX7_voiceFirst 63 = .ok (.goto (-44), 3) := by decide +kernel
theorem dX7_voiceFirst_66 : decode cX7_voiceFirst 66 = .ok (.iload 4, 2) := by decide +kernel
theorem dX7_voiceFirst_68 : decode cX7_voiceFirst 68 = .ok (.ireturn, 1) := by decide +kernel
theorem dX7_canBe_0 : decode cX7_canBe 0 = .ok (.iload_n 2, 1) := by decide +kernel
theorem dX7_canBe_1 : decode cX7_canBe 1 = .ok (.ifCond .ne 5, 3) := by decide +kernel
theorem dX7_canBe_4 : decode cX7_canBe 4 = .ok (.iconst 0, 1) := by decide +kernel
theorem dX7_canBe_5 : decode cX7_canBe 5 = .ok (.ireturn, 1) := by decide +kernel
theorem dX7_canBe_6 : decode cX7_canBe 6 = .ok (.iload_n 2, 1) := by decide +kernel
theorem dX7_canBe_7 : decode cX7_canBe 7 = .ok (.iconst 1, 1) := by decide +kernel
theorem dX7_canBe_8 : decode cX7_canBe 8 = .ok (.isub, 1) := by decide +kernel
theorem dX7_canBe_9 : decode cX7_canBe 9 = .ok (.istore_n 3, 1) := by decide +kernel
theorem dX7_canBe_10 : decode cX7_canBe 10 = .ok (.iload_n 3, 1) := by decide +kernel
theorem dX7_canBe_11 : decode cX7_canBe 11 = .ok (.ifCond .lt 211, 3) := by decide +kernel
theorem dX7_canBe_14 : decode cX7_canBe 14 = .ok (.iconst 0, 1) := by decide +kernel
theorem dX7_canBe_15 : decode cX7_canBe 15 = .ok (.istore 4, 2) := by decide +kernel
theorem dX7_canBe_17 : decode cX7_canBe 17 = .ok (.iload 4, 2) := by decide +kernel
theorem dX7_canBe_19 : decode cX7_canBe 19 = .ok (.iconst 2, 1) := by decide +kernel
theorem dX7_canBe_20 : decode cX7_canBe 20 = .ok (.if_icmp .ge 196, 3) := by decide +kernel
theorem dX7_canBe_23 : decode cX7_canBe 23 = .ok (.aload_n 0, 1) := by decide +kernel
theorem dX7_canBe_24 : decode cX7_canBe 24 = .ok (.getfield 59, 3) := by decide +kernel
theorem dX7_canBe_27 : decode cX7_canBe 27 = .ok (.iload_n 1, 1) := by decide +kernel
theorem dX7_canBe_28 : decode cX7_canBe 28 = .ok (.iload_n 3, 1) := by decide +kernel
theorem dX7_canBe_29 : decode cX7_canBe 29 = .ok (.iadd, 1) := by decide +kernel
theorem dX7_canBe_30 : decode cX7_canBe 30 = .ok (.iaload, 1) := by decide +kernel
theorem dX7_canBe_31 : decode cX7_canBe 31 = .ok (.iload 4, 2) := by decide +kernel
theorem dX7_canBe_33 : decode cX7_canBe 33 = .ok (.aload_n 0, 1) := by decide +kernel
theorem dX7_canBe_34 : decode cX7_canBe 34 = .ok (.getfield 65, 3) := by decide +kernel
theorem dX7_canBe_37 : decode cX7_canBe 37 = .ok (.iload_n 1, 1) := by decide +kernel
theorem dX7_canBe_38 : decode cX7_canBe 38 = .ok (.iload_n 3, 1) := by decide +kernel
theorem dX7_canBe_39 : decode cX7_canBe 39 = .ok (.iadd, 1) := by decide +kernel
theorem dX7_canBe_40 : decode cX7_canBe 40 = .ok (.iaload, 1) := by decide +kernel
theorem dX7_canBe_41 : decode cX7_canBe 41 = .ok (.invokestatic 111, 3) := by decide +kernel
theorem dX7_canBe_44 : decode cX7_canBe 44 = .ok (.istore 5, 2) := by decide +kernel
theorem dX7_canBe_46 : decode cX7_canBe 46 = .ok (.iconst 0, 1) := by decide +kernel
theorem dX7_canBe_47 : decode cX7_canBe 47 = .ok (.istore 6, 2) := by decide +kernel
theorem dX7_canBe_49 : decode cX7_canBe 49 = .ok (.iload 6, 2) := by decide +kernel
theorem dX7_canBe_51 : decode cX7_canBe 51 = .ok (.aload_n 0, 1) := by decide +kernel
theorem dX7_canBe_52 : decode cX7_canBe 52 = .ok (.getfield 28, 3) := by decide +kernel
theorem dX7_canBe_55 : decode cX7_canBe 55 = .ok (.if_icmp .gt 155, 3) := by decide +kernel
theorem dX7_canBe_58 : decode cX7_canBe 58 = .ok (.ldc 119, 2) := by decide +kernel
theorem dX7_canBe_60 : decode cX7_canBe 60 = .ok (.istore 7, 2) := by decide +kernel
theorem dX7_canBe_62 : decode cX7_canBe 62 = .ok (.aload_n 0, 1) := by decide +kernel
theorem dX7_canBe_63 : decode cX7_canBe 63 = .ok (.getfield 84, 3) := by decide +kernel
theorem dX7_canBe_66 : decode cX7_canBe 66 = .ok (.iload_n 3, 1) := by decide +kernel
theorem dX7_canBe_67 : decode cX7_canBe 67 = .ok (.iaload, 1) := by decide +kernel
theorem dX7_canBe_68 : decode cX7_canBe 68 = .ok (.ifCond .lt 14, 3) := by decide +kernel
theorem dX7_canBe_71 : decode cX7_canBe 71 = .ok (.aload_n 0, 1) := by decide +kernel
theorem dX7_canBe_72 : decode cX7_canBe 72 = .ok (.getfield 84, 3) := by decide +kernel
theorem dX7_canBe_75 : decode cX7_canBe 75 = .ok (.iload_n 3, 1) := by decide +kernel
theorem dX7_canBe_76 : decode cX7_canBe 76 = .ok (.iaload, 1) := by decide +kernel
theorem dX7_canBe_77 : decode cX7_canBe 77 = .ok (.iload 4, 2) := by decide +kernel
theorem dX7_canBe_79 : decode cX7_canBe 79 = .ok (.if_icmp .ne 105, 3) := by decide +kernel
theorem dX7_canBe_82 : decode cX7_canBe 82 = .ok (.iload 5, 2) := by decide +kernel
theorem dX7_canBe_84 : decode cX7_canBe 84 = .ok (.iload 6, 2) := by decide +kernel
theorem dX7_canBe_86 : decode cX7_canBe 86 = .ok (.if_icmp .gt 98, 3) := by decide +kernel
theorem dX7_canBe_89 : decode cX7_canBe 89 = .ok (.iload_n 3, 1) := by decide +kernel
theorem dX7_canBe_90 : decode cX7_canBe 90 = .ok (.iload_n 2, 1) := by decide +kernel
theorem dX7_canBe_91 : decode cX7_canBe 91 = .ok (.iconst 1, 1) := by decide +kernel
theorem dX7_canBe_92 : decode cX7_canBe 92 = .ok (.isub, 1) := by decide +kernel
theorem dX7_canBe_93 : decode cX7_canBe 93 = .ok (.if_icmp .ne 21, 3) := by decide +kernel
theorem dX7_canBe_96 : decode cX7_canBe 96 = .ok (.iload 5, 2) := by decide +kernel
theorem dX7_canBe_98 : decode cX7_canBe 98 = .ok (.iload 6, 2) := by decide +kernel
theorem dX7_canBe_100 : decode cX7_canBe 100 = .ok (.if_icmp .ne 7, 3) := by decide +kernel
theorem dX7_canBe_103 : decode cX7_canBe 103 = .ok (.iconst 0, 1) := by decide +kernel
theorem dX7_canBe_104 : decode cX7_canBe 104 = .ok (.goto 5, 3) := by decide +kernel
theorem dX7_canBe_107 : decode cX7_canBe 107 = .ok (.ldc 119, 2) := by decide +kernel
theorem dX7_canBe_109 : decode cX7_canBe 109 = .ok (.istore 7, 2) := by decide +kernel
theorem dX7_canBe_111 : decode cX7_canBe 111 = .ok (.goto 73, 3) := by decide +kernel
theorem dX7_canBe_114 : decode cX7_canBe 114 = .ok (.aload_n 0, 1) := by decide +kernel
theorem dX7_canBe_115 : decode cX7_canBe 115 = .ok (.getfield 81, 3) := by decide +kernel
theorem dX7_canBe_118 : decode cX7_canBe 118 = .ok (.iconst 2, 1) := by decide +kernel
theorem dX7_canBe_119 : decode cX7_canBe 119 = .ok (.iload_n 3, 1) := by decide +kernel
theorem dX7_canBe_120 : decode cX7_canBe 120 = .ok (.iconst 1, 1) := by decide +kernel
theorem dX7_canBe_121 : decode cX7_canBe 121 = .ok (.iadd, 1) := by decide +kernel
theorem dX7_canBe_122 : decode cX7_canBe 122 = .ok (.imul, 1) := by decide +kernel
theorem dX7_canBe_123 : decode cX7_canBe 123 = .ok (.iload 4, 2) := by decide +kernel
theorem dX7_canBe_125 : decode cX7_canBe 125 = .ok (.iadd, 1) := by decide +kernel
theorem dX7_canBe_126 : decode cX7_canBe 126 = .ok (.sipush 2049, 3) := by decide +kernel
theorem dX7_canBe_129 : decode cX7_canBe 129 = .ok (.imul, 1) := by decide +kernel
theorem dX7_canBe_130 : decode cX7_canBe 130 = .ok (.iload 6, 2) := by decide +kernel
theorem dX7_canBe_132 : decode cX7_canBe 132 = .ok (.iadd, 1) := by decide +kernel
theorem dX7_canBe_133 : decode cX7_canBe 133 = .ok (.iload 5, 2) := by decide +kernel
theorem dX7_canBe_135 : decode cX7_canBe 135 = .ok (.isub, 1) := by decide +kernel
theorem dX7_canBe_136 : decode cX7_canBe 136 = .ok (.iaload, 1) := by decide +kernel
theorem dX7_canBe_137 : decode cX7_canBe 137 = .ok (.istore 8, 2) := by decide +kernel
theorem dX7_canBe_139 : decode cX7_canBe 139 = .ok (.aload_n 0, 1) := by decide +kernel
theorem dX7_canBe_140 : decode cX7_canBe 140 = .ok (.getfield 81, 3) := by decide +kernel
theorem dX7_canBe_143 : decode cX7_canBe 143 = .ok (.iconst 2, 1) := by decide +kernel
theorem dX7_canBe_144 : decode cX7_canBe 144 = .ok (.iload_n 3, 1) := by decide +kernel
theorem dX7_canBe_145 : decode cX7_canBe 145 = .ok (.iconst 1, 1) := by decide +kernel
theorem dX7_canBe_146 : decode cX7_canBe 146 = .ok (.iadd, 1) := by decide +kernel
theorem dX7_canBe_147 : decode cX7_canBe 147 = .ok (.imul, 1) := by decide +kernel
theorem dX7_canBe_148 : decode cX7_canBe 148 = .ok (.iconst 1, 1) := by decide +kernel
theorem dX7_canBe_149 : decode cX7_canBe 149 = .ok (.iadd, 1) := by decide +kernel
theorem dX7_canBe_150 : decode cX7_canBe 150 = .ok (.iload 4, 2) := by decide +kernel
theorem dX7_canBe_152 : decode cX7_canBe 152 = .ok (.isub, 1) := by decide +kernel
theorem dX7_canBe_153 : decode cX7_canBe 153 = .ok (.sipush 2049, 3) := by decide +kernel
theorem dX7_canBe_156 : decode cX7_canBe 156 = .ok (.imul, 1) := by decide +kernel
theorem dX7_canBe_157 : decode cX7_canBe 157 = .ok (.iload 6, 2) := by decide +kernel
theorem dX7_canBe_159 : decode cX7_canBe 159 = .ok (.iadd, 1) := by decide +kernel
theorem dX7_canBe_160 : decode cX7_canBe 160 = .ok (.iload 5, 2) := by decide +kernel
theorem dX7_canBe_162 : decode cX7_canBe 162 = .ok (.isub, 1) := by decide +kernel
theorem dX7_canBe_163 : decode cX7_canBe 163 = .ok (.iaload, 1) := by decide +kernel
theorem dX7_canBe_164 : decode cX7_canBe 164 = .ok (.iconst 1, 1) := by decide +kernel
theorem dX7_canBe_165 : decode cX7_canBe 165 = .ok (.iadd, 1) := by decide +kernel
theorem dX7_canBe_166 : decode cX7_canBe 166 = .ok (.istore 9, 2) := by decide +kernel
theorem dX7_canBe_168 : decode cX7_canBe 168 = .ok (.iload 8, 2) := by decide +kernel
theorem dX7_canBe_170 : decode cX7_canBe 170 = .ok (.iload 9, 2) := by decide +kernel
theorem dX7_canBe_172 : decode cX7_canBe 172 = .ok (.if_icmp .ge 8, 3) := by decide +kernel
theorem dX7_canBe_175 : decode cX7_canBe 175 = .ok (.iload 8, 2) := by decide +kernel
theorem dX7_canBe_177 : decode cX7_canBe 177 = .ok (.goto 5, 3) := by decide +kernel
theorem dX7_canBe_180 : decode cX7_canBe 180 = .ok (.iload 9, 2) := by decide +kernel
theorem dX7_canBe_182 : decode cX7_canBe 182 = .ok (.istore 7, 2) := by decide +kernel
theorem dX7_canBe_184 : decode cX7_canBe 184 = .ok (.aload_n 0, 1) := by decide +kernel
theorem dX7_canBe_185 : decode cX7_canBe 185 = .ok (.getfield 81, 3) := by decide +kernel
theorem dX7_canBe_188 : decode cX7_canBe 188 = .ok (.iconst 2, 1) := by decide +kernel
theorem dX7_canBe_189 : decode cX7_canBe 189 = .ok (.iload_n 3, 1) := by decide +kernel
theorem dX7_canBe_190 : decode cX7_canBe 190 = .ok (.imul, 1) := by decide +kernel
theorem dX7_canBe_191 : decode cX7_canBe 191 = .ok (.iload 4, 2) := by decide +kernel
theorem dX7_canBe_193 : decode cX7_canBe 193 = .ok (.iadd, 1) := by decide +kernel
theorem dX7_canBe_194 : decode cX7_canBe 194 = .ok (.sipush 2049, 3) := by decide +kernel
theorem dX7_canBe_197 : decode cX7_canBe 197 = .ok (.imul, 1) := by decide +kernel
theorem dX7_canBe_198 : decode cX7_canBe 198 = .ok (.iload 6, 2) := by decide +kernel
theorem dX7_canBe_200 : decode cX7_canBe 200 = .ok (.iadd, 1) := by decide +kernel
theorem dX7_canBe_201 : decode cX7_canBe 201 = .ok (.iload 7, 2) := by decide +kernel
theorem dX7_canBe_203 : decode cX7_canBe 203 = .ok (.iastore, 1) := by decide +kernel
theorem dX7_canBe_204 : decode cX7_canBe 204 = .ok (.iinc 6 1, 3) := by decide +kernel
theorem dX7_canBe_207 : decode cX7_canBe 207 = .ok (.goto (-158), 3) := by decide +kernel
theorem dX7_canBe_210 : decode cX7_canBe 210 = .ok (.iinc 4 1, 3) := by decide +kernel
theorem dX7_canBe_213 : decode cX7_canBe 213 = .ok (.goto (-196), 3) := by decide +kernel
theorem dX7_canBe_216 : decode cX7_canBe 216 = .ok (.iinc 3 (-1), 3) := by decide +kernel
theorem dX7_canBe_219 : decode cX7_canBe 219 = .ok (.goto (-209), 3) := by decide +kernel
theorem dX7_canBe_222 : decode cX7_canBe 222 = .ok (.aload_n 0, 1) := by decide +kernel
theorem dX7_canBe_223 : decode cX7_canBe 223 = .ok (.getfield 28, 3) := by decide +kernel
theorem dX7_canBe_226 : decode cX7_canBe 226 = .ok (.istore_n 3, 1) := by decide +kernel
theorem dX7_canBe_227 : decode cX7_canBe 227 = .ok (.iconst (-1), 1) := by decide +kernel
theorem dX7_canBe_228 : decode cX7_canBe 228 = .ok (.istore 4, 2) := by decide +kernel
theorem dX7_canBe_230 : decode cX7_canBe 230 = .ok (.iconst 0, 1) := by decide +kernel
theorem dX7_canBe_231 : decode cX7_canBe 231 = .ok (.istore 5, 2) := by decide +kernel
theorem dX7_canBe_233 : decode cX7_canBe 233 = .ok (.iload 5, 2) := by decide +kernel
theorem dX7_canBe_235 : decode cX7_canBe 235 = .ok (.iload_n 2, 1) := by decide +kernel
theorem dX7_canBe_236 : decode cX7_canBe 236 = .ok (.if_icmp .ge 133, 3) := by decide +kernel
theorem dX7_canBe_239 : decode cX7_canBe 239 = .ok (.aload_n 0, 1) := by decide +kernel
theorem dX7_canBe_240 : decode cX7_canBe 240 = .ok (.getfield 81, 3) := by decide +kernel
theorem dX7_canBe_243 : decode cX7_canBe 243 = .ok (.iconst 2, 1) := by decide +kernel
theorem dX7_canBe_244 : decode cX7_canBe 244 = .ok (.iload 5, 2) := by decide +kernel
theorem dX7_canBe_246 : decode cX7_canBe 246 = .ok (.imul, 1) := by decide +kernel
theorem dX7_canBe_247 : decode cX7_canBe 247 = .ok (.sipush 2049, 3) := by decide +kernel
theorem dX7_canBe_250 : decode cX7_canBe 250 = .ok (.imul, 1) := by decide +kernel
theorem dX7_canBe_251 : decode cX7_canBe 251 = .ok (.iload_n 3, 1) := by decide +kernel
theorem dX7_canBe_252 : decode cX7_canBe 252 = .ok (.iadd, 1) := by decide +kernel
theorem dX7_canBe_253 : decode cX7_canBe 253 = .ok (.iaload, 1) := by decide +kernel
theorem dX7_canBe_254 : decode cX7_canBe 254 = .ok (.iload 4, 2) := by decide +kernel
theorem dX7_canBe_256 : decode cX7_canBe 256 = .ok (.iconst 1, 1) := by decide +kernel
theorem dX7_canBe_257 : decode cX7_canBe 257 = .ok (.if_icmp .ne 7, 3) := by decide +kernel
theorem dX7_canBe_260 : decode cX7_canBe 260 = .ok (.iconst 1, 1) := by decide +kernel
theorem dX7_canBe_261 : decode cX7_canBe 261 = .ok (.goto 4, 3) := by decide +kernel
theorem dX7_canBe_264 : decode cX7_canBe 264 = .ok (.iconst 0, 1) := by decide +kernel
theorem dX7_canBe_265 : decode cX7_canBe 265 = .ok (.iadd, 1) := by decide +kernel
theorem dX7_canBe_266 : decode cX7_canBe 266 = .ok (.istore 6, 2) := by decide +kernel
theorem dX7_canBe_268 : decode cX7_canBe 268 = .ok (.aload_n 0, 1) := by decide +kernel
theorem dX7_canBe_269 : decode cX7_canBe 269 = .ok (.getfield 81, 3) := by decide +kernel
theorem dX7_canBe_272 : decode cX7_canBe 272 = .ok (.iconst 2, 1) := by decide +kernel
theorem dX7_canBe_273 : decode cX7_canBe 273 = .ok (.iload 5, 2) := by decide +kernel
theorem dX7_canBe_275 : decode cX7_canBe 275 = .ok (.imul, 1) := by decide +kernel
theorem dX7_canBe_276 : decode cX7_canBe 276 = .ok (.iconst 1, 1) := by decide +kernel
theorem dX7_canBe_277 : decode cX7_canBe 277 = .ok (.iadd, 1) := by decide +kernel
theorem dX7_canBe_278 : decode cX7_canBe 278 = .ok (.sipush 2049, 3) := by decide +kernel
theorem dX7_canBe_281 : decode cX7_canBe 281 = .ok (.imul, 1) := by decide +kernel
theorem dX7_canBe_282 : decode cX7_canBe 282 = .ok (.iload_n 3, 1) := by decide +kernel
theorem dX7_canBe_283 : decode cX7_canBe 283 = .ok (.iadd, 1) := by decide +kernel
theorem dX7_canBe_284 : decode cX7_canBe 284 = .ok (.iaload, 1) := by decide +kernel
theorem dX7_canBe_285 : decode cX7_canBe 285 = .ok (.iload 4, 2) := by decide +kernel
theorem dX7_canBe_287 : decode cX7_canBe 287 = .ok (.ifCond .ne 7, 3) := by decide +kernel
theorem dX7_canBe_290 : decode cX7_canBe 290 = .ok (.iconst 1, 1) := by decide +kernel
theorem dX7_canBe_291 : decode cX7_canBe 291 = .ok (.goto 4, 3) := by decide +kernel
theorem dX7_canBe_294 : decode cX7_canBe 294 = .ok (.iconst 0, 1) := by decide +kernel
theorem dX7_canBe_295 : decode cX7_canBe 295 = .ok (.iadd, 1) := by decide +kernel
theorem dX7_canBe_296 : decode cX7_canBe 296 = .ok (.istore 7, 2) := by decide +kernel
theorem dX7_canBe_298 : decode cX7_canBe 298 = .ok (.iload 6, 2) := by decide +kernel
theorem dX7_canBe_300 : decode cX7_canBe 300 = .ok (.ldc 119, 2) := by decide +kernel
theorem dX7_canBe_302 : decode cX7_canBe 302 = .ok (.if_icmp .lt 12, 3) := by decide +kernel
theorem dX7_canBe_305 : decode cX7_canBe 305 = .ok (.iload 7, 2) := by decide +kernel
theorem dX7_canBe_307 : decode cX7_canBe 307 = .ok (.ldc 119, 2) := by decide +kernel
theorem dX7_canBe_309 : decode cX7_canBe 309 = .ok (.if_icmp .lt 5, 3) := by decide +kernel
theorem dX7_canBe_312 : decode cX7_canBe 312 = .ok (.iconst 0, 1) := by decide +kernel
theorem dX7_canBe_313 : decode cX7_canBe 313 = .ok (.ireturn, 1) := by decide +kernel
theorem dX7_canBe_314 : decode cX7_canBe 314 = .ok (.iload 6, 2) := by decide +kernel
theorem dX7_canBe_316 : decode cX7_canBe 316 = .ok (.iload 7, 2) := by decide +kernel
theorem dX7_canBe_318 : decode cX7_canBe 318 = .ok (.if_icmp .gt 7, 3) := by decide +kernel
theorem dX7_canBe_321 : decode cX7_canBe 321 = .ok (.iconst 0, 1) := by decide +kernel
theorem dX7_canBe_322 : decode cX7_canBe 322 = .ok (.goto 4, 3) := by decide +kernel
theorem dX7_canBe_325 : decode cX7_canBe 325 = .ok (.iconst 1, 1) := by decide +kernel
theorem dX7_canBe_326 : decode cX7_canBe 326 = .ok (.istore 4, 2) := by decide +kernel
theorem dX7_canBe_328 : decode cX7_canBe 328 = .ok (.aload_n 0, 1) := by decide +kernel
theorem dX7_canBe_329 : decode cX7_canBe 329 = .ok (.getfield 87, 3) := by decide +kernel
theorem dX7_canBe_332 : decode cX7_canBe 332 = .ok (.iload 5, 2) := by decide +kernel
theorem dX7_canBe_334 : decode cX7_canBe 334 = .ok (.iload 4, 2) := by decide +kernel
theorem dX7_canBe_336 : decode cX7_canBe 336 = .ok (.iastore, 1) := by decide +kernel
theorem dX7_canBe_337 : decode cX7_canBe 337 = .ok (.iload_n 3, 1) := by decide +kernel
theorem dX7_canBe_338 : decode cX7_canBe 338 = .ok (.aload_n 0, 1) := by decide +kernel
theorem dX7_canBe_339 : decode cX7_canBe 339 = .ok (.getfield 59, 3) := by decide +kernel
theorem dX7_canBe_342 : decode cX7_canBe 342 = .ok (.iload_n 1, 1) := by decide +kernel
theorem dX7_canBe_343 : decode cX7_canBe 343 = .ok (.iload 5, 2) := by decide +kernel
theorem dX7_canBe_345 : decode cX7_canBe 345 = .ok (.iadd, 1) := by decide +kernel
theorem dX7_canBe_346 : decode cX7_canBe 346 = .ok (.iaload, 1) := by decide +kernel
theorem dX7_canBe_347 : decode cX7_canBe 347 = .ok (.iload 4, 2) := by decide +kernel
theorem dX7_canBe_349 : decode cX7_canBe 349 = .ok (.aload_n 0, 1) := by decide +kernel
theorem dX7_canBe_350 : decode cX7_canBe 350 = .ok (.getfield 65, 3) := by decide +kernel
theorem dX7_canBe_353 : decode cX7_canBe 353 = .ok (.iload_n 1, 1) := by decide +kernel
theorem dX7_canBe_354 : decode cX7_canBe 354 = .ok (.iload 5, 2) := by decide +kernel
theorem dX7_canBe_356 : decode cX7_canBe 356 = .ok (.iadd, 1) := by decide +kernel
theorem dX7_canBe_357 : decode cX7_canBe 357 = .ok (.iaload, 1) := by decide +kernel
theorem dX7_canBe_358 : decode cX7_canBe 358 = .ok (.invokestatic 111, 3) := by decide +kernel
theorem dX7_canBe_361 : decode cX7_canBe 361 = .ok (.isub, 1) := by decide +kernel
theorem dX7_canBe_362 : decode cX7_canBe 362 = .ok (.istore_n 3, 1) := by decide +kernel
theorem dX7_canBe_363 : decode cX7_canBe 363 = .ok (.iinc 5 1, 3) := by decide +kernel
theorem dX7_canBe_366 : decode cX7_canBe 366 = .ok (.goto (-133), 3) := by decide +kernel
theorem dX7_canBe_369 : decode cX7_canBe 369 = .ok (.iconst 1, 1) := by decide +kernel
theorem dX7_canBe_370 : decode cX7_canBe 370 = .ok (.ireturn, 1) := by decide +kernel
theorem dX7_peek_0 : decode cX7_peek 0 = .ok (.iload_n 1, 1) := by decide +kernel
theorem dX7_peek_1 : decode cX7_peek 1 = .ok (.aload_n 0, 1) := by decide +kernel
theorem dX7_peek_2 : decode cX7_peek 2 = .ok (.getfield 108, 3) := by decide +kernel
theorem dX7_peek_5 : decode cX7_peek 5 = .ok (.if_icmp .ge 12, 3) := by decide +kernel
theorem dX7_peek_8 : decode cX7_peek 8 = .ok (.aload_n 0, 1) := by decide +kernel
theorem dX7_peek_9 : decode cX7_peek 9 = .ok (.getfield 25, 3) := by decide +kernel
theorem dX7_peek_12 : decode cX7_peek 12 = .ok (.iload_n 1, 1) := by decide +kernel
theorem dX7_peek_13 : decode cX7_peek 13 = .ok (.iaload, 1) := by decide +kernel
theorem dX7_peek_14 : decode cX7_peek 14 = .ok (.goto 4, 3) := by decide +kernel
theorem dX7_peek_17 : decode cX7_peek 17 = .ok (.iconst (-1), 1) := by decide +kernel
theorem dX7_peek_18 : decode cX7_peek 18 = .ok (.ireturn, 1) := by decide +kernel
theorem dX7_fail_0 : decode cX7_fail 0 = .ok (.aload_n 0, 1) := by decide +kernel
theorem dX7_fail_1 : decode cX7_fail 1 = .ok (.aload_n 0, 1) := by decide +kernel
theorem dX7_fail_2 : decode cX7_fail 2 = .ok (.getfield 120, 3) := by decide +kernel
theorem dX7_fail_5 : decode cX7_fail 5 = .ok (.ifCond .ge 7, 3) := by decide +kernel
theorem dX7_fail_8 : decode cX7_fail 8 = .ok (.iload_n 1, 1) := by decide +kernel
theorem dX7_fail_9 : decode cX7_fail 9 = .ok (.goto 7, 3) := by decide +kernel
theorem dX7_fail_12 : decode cX7_fail 12 = .ok (.aload_n 0, 1) := by decide +kernel
theorem dX7_fail_13 : decode cX7_fail 13 = .ok (.getfield 120, 3) := by decide +kernel
theorem dX7_fail_16 : decode cX7_fail 16 = .ok (.putfield 120, 3) := by decide +kernel
theorem dX7_fail_19 : decode cX7_fail 19 = .ok (.return_, 1) := by decide +kernel
theorem dX7_find_0 : decode cX7_find 0 = .ok (.iconst 0, 1) := by decide +kernel
theorem dX7_find_1 : decode cX7_find 1 = .ok (.istore_n 2, 1) := by decide +kernel
theorem dX7_find_2 : decode cX7_find 2 = .ok (.iload_n 2, 1) := by decide +kernel
theorem dX7_find_3 : decode cX7_find 3 = .ok (.aload_n 0, 1) := by decide +kernel
theorem dX7_find_4 : decode cX7_find 4 = .ok (.arraylength, 1) := by decide +kernel
theorem dX7_find_5 : decode cX7_find 5 = .ok (.if_icmp .ge 16, 3) := by decide +kernel
theorem dX7_find_8 : decode cX7_find 8 = .ok (.aload_n 0, 1) := by decide +kernel
theorem dX7_find_9 : decode cX7_find 9 = .ok (.iload_n 2, 1) := by decide +kernel
theorem dX7_find_10 : decode cX7_find 10 = .ok (.iaload, 1) := by decide +kernel
theorem dX7_find_11 : decode cX7_find 11 = .ok (.iload_n 1, 1) := by decide +kernel
theorem dX7_find_12 : decode cX7_find 12 = .ok (.if_icmp .eq 9, 3) := by decide +kernel
theorem dX7_find_15 : decode cX7_find 15 = .ok (.iinc 2 1, 3) := by decide +kernel
theorem dX7_find_18 : decode cX7_find 18 = .ok (.goto (-16), 3) := by decide +kernel
theorem dX7_find_21 : decode cX7_find 21 = .ok (.iload_n 2, 1) := by decide +kernel
theorem dX7_find_22 : decode cX7_find 22 = .ok (.aload_n 0, 1) := by decide +kernel
theorem dX7_find_23 : decode cX7_find 23 = .ok (.arraylength, 1) := by decide +kernel
theorem dX7_find_24 : decode cX7_find 24 = .ok (.if_icmp .ge 7, 3) := by decide +kernel
theorem dX7_find_27 : decode cX7_find 27 = .ok (.iload_n 2, 1) := by decide +kernel
theorem dX7_find_28 : decode cX7_find 28 = .ok (.goto 4, 3) := by decide +kernel
theorem dX7_find_31 : decode cX7_find 31 = .ok (.iconst (-1), 1) := by decide +kernel
theorem dX7_find_32 : decode cX7_find 32 = .ok (.ireturn, 1) := by decide +kernel
theorem dX7_noteOf_0 : decode cX7_noteOf 0 = .ok (.iconst (-1), 1) := by decide +kernel
theorem dX7_noteOf_1 : decode cX7_noteOf 1 = .ok (.istore_n 2, 1) := by decide +kernel
theorem dX7_noteOf_2 : decode cX7_noteOf 2 = .ok (.iconst 0, 1) := by decide +kernel
theorem dX7_noteOf_3 : decode cX7_noteOf 3 = .ok (.istore_n 3, 1) := by decide +kernel
theorem dX7_noteOf_4 : decode cX7_noteOf 4 = .ok (.iload_n 3, 1) := by decide +kernel
theorem dX7_noteOf_5 : decode cX7_noteOf 5 = .ok (.iconst 4, 1) := by decide +kernel
theorem dX7_noteOf_6 : decode cX7_noteOf 6 = .ok (.if_icmp .ge 55, 3) := by decide +kernel
theorem dX7_noteOf_9 : decode cX7_noteOf 9 = .ok (.iconst 0, 1) := by decide +kernel
theorem dX7_noteOf_10 : decode cX7_noteOf 10 = .ok (.istore 4, 2) := by decide +kernel
theorem dX7_noteOf_12 : decode cX7_noteOf 12 = .ok (.iload 4, 2) := by decide +kernel
theorem dX7_noteOf_14 : decode cX7_noteOf 14 = .ok (.bipush 7, 2) := by decide +kernel
theorem dX7_noteOf_16 : decode cX7_noteOf 16 = .ok (.if_icmp .ge 39, 3) := by decide +kernel
theorem dX7_noteOf_19 : decode cX7_noteOf 19 = .ok (.iload_n 1, 1) := by decide +kernel
theorem dX7_noteOf_20 : decode cX7_noteOf 20 = .ok (.aload_n 0, 1) := by decide +kernel
theorem dX7_noteOf_21 : decode cX7_noteOf 21 = .ok (.getfield 7, 3) := by decide +kernel
theorem dX7_noteOf_24 : decode cX7_noteOf 24 = .ok (.iload 4, 2) := by decide +kernel
theorem dX7_noteOf_26 : decode cX7_noteOf 26 = .ok (.iaload, 1) := by decide +kernel
theorem dX7_noteOf_27 : decode cX7_noteOf 27 = .ok (.aload_n 0, 1) := by decide +kernel
theorem dX7_noteOf_28 : decode cX7_noteOf 28 = .ok (.getfield 13, 3) := by decide +kernel
theorem dX7_noteOf_31 : decode cX7_noteOf 31 = .ok (.iload_n 3, 1) := by decide +kernel
theorem dX7_noteOf_32 : decode cX7_noteOf 32 = .ok (.iaload, 1) := by decide +kernel
theorem dX7_noteOf_33 : decode cX7_noteOf 33 = .ok (.ior, 1) := by decide +kernel
theorem dX7_noteOf_34 : decode cX7_noteOf 34 = .ok (.if_icmp .ne 13, 3) := by decide +kernel
theorem dX7_noteOf_37 : decode cX7_noteOf 37 = .ok (.bipush 7, 2) := by decide +kernel
theorem dX7_noteOf_39 : decode cX7_noteOf 39 = .ok (.iload_n 3, 1) := by decide +kernel
theorem dX7_noteOf_40 : decode cX7_noteOf 40 = .ok (.imul, 1) := by decide +kernel
theorem dX7_noteOf_41 : decode cX7_noteOf 41 = .ok (.iload 4, 2) := by decide +kernel
theorem dX7_noteOf_43 : decode cX7_noteOf 43 = .ok (.iadd, 1) := by decide +kernel
theorem dX7_noteOf_44 : decode cX7_noteOf 44 = .ok (.goto 4, 3) := by decide +kernel
theorem dX7_noteOf_47 : decode cX7_noteOf 47 = .ok (.iload_n 2, 1) := by decide +kernel
theorem dX7_noteOf_48 : decode cX7_noteOf 48 = .ok (.istore_n 2, 1) := by decide +kernel
theorem dX7_noteOf_49 : decode cX7_noteOf 49 = .ok (.iinc 4 1, 3) := by decide +kernel
theorem dX7_noteOf_52 : decode cX7_noteOf 52 = .ok (.goto (-40), 3) := by decide +kernel
