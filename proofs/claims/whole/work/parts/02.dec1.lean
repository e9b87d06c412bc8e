theorem dX8_fail_0 : decode cX8_fail 0 = .ok (.aload_n 0, 1) := by decide +kernel
theorem dX8_fail_1 : decode cX8_fail 1 = .ok (.iload_n 1, 1) := by decide +kernel
theorem dX8_fail_2 : decode cX8_fail 2 = .ok (.putfield 29, 3) := by decide +kernel
theorem dX8_fail_5 : decode cX8_fail 5 = .ok (.aload_n 0, 1) := by decide +kernel
theorem dX8_fail_6 : decode cX8_fail 6 = .ok (.aload_n 0, 1) := by decide +kernel
theorem dX8_fail_7 : decode cX8_fail 7 = .ok (.getfield 15, 3) := by decide +kernel
theorem dX8_fail_10 : decode cX8_fail 10 = .ok (.aload_n 0, 1) := by decide +kernel
theorem dX8_fail_11 : decode cX8_fail 11 = .ok (.getfield 25, 3) := by decide +kernel
theorem dX8_fail_14 : decode cX8_fail 14 = .ok (.iaload, 1) := by decide +kernel
theorem dX8_fail_15 : decode cX8_fail 15 = .ok (.putfield 32, 3) := by decide +kernel
theorem dX8_fail_18 : decode cX8_fail 18 = .ok (.iconst 0, 1) := by decide +kernel
theorem dX8_fail_19 : decode cX8_fail 19 = .ok (.ireturn, 1) := by decide +kernel
theorem dX8_goOn_0 : decode cX8_goOn 0 = .ok (.aload_n 0, 1) := by decide +kernel
theorem dX8_goOn_1 : decode cX8_goOn 1 = .ok (.getfield 25, 3) := by decide +kernel
theorem dX8_goOn_4 : decode cX8_goOn 4 = .ok (.sipush 400, 3) := by decide +kernel
theorem dX8_goOn_7 : decode cX8_goOn 7 = .ok (.if_icmp .ge 13, 3) := by decide +kernel
theorem dX8_goOn_10 : decode cX8_goOn 10 = .ok (.aload_n 0, 1) := by decide +kernel
theorem dX8_goOn_11 : decode cX8_goOn 11 = .ok (.dup, 1) := by decide +kernel
theorem dX8_goOn_12 : decode cX8_goOn 12 = .ok (.getfield 25, 3) := by decide +kernel
theorem dX8_goOn_15 : decode cX8_goOn 15 = .ok (.iconst 1, 1) := by decide +kernel
theorem dX8_goOn_16 : decode cX8_goOn 16 = .ok (.iadd, 1) := by decide +kernel
theorem dX8_goOn_17 : decode cX8_goOn 17 = .ok (.putfield 25, 3) := by decide +kernel
theorem dX8_goOn_20 : decode cX8_goOn 20 = .ok (.return_, 1) := by decide +kernel
theorem dX8_readLine_0 : decode cX8_readLine 0 = .ok (.aload_n 0, 1) := by decide +kernel
theorem dX8_readLine_1 : decode cX8_readLine 1 = .ok (.getfield 9, 3) := by decide +kernel
theorem dX8_readLine_4 : decode cX8_readLine 4 = .ok (.aload_n 0, 1) := by decide +kernel
theorem dX8_readLine_5 : decode cX8_readLine 5 = .ok (.getfield 25, 3) := by decide +kernel
theorem dX8_readLine_8 : decode cX8_readLine 8 = .ok (.iaload, 1) := by decide +kernel
theorem dX8_readLine_9 : decode cX8_readLine 9 = .ok (.istore_n 1, 1) := by decide +kernel
theorem dX8_readLine_10 : decode cX8_readLine 10 = .ok (.iload_n 1, 1) := by decide +kernel
theorem dX8_readLine_11 : decode cX8_readLine 11 = .ok (.sipush 10000, 3) := by decide +kernel
theorem dX8_readLine_14 : decode cX8_readLine 14 = .ok (.if_icmp .eq 16, 3) := by decide +kernel
theorem dX8_readLine_17 : decode cX8_readLine 17 = .ok (.iload_n 1, 1) := by decide +kernel
theorem dX8_readLine_18 : decode cX8_readLine 18 = .ok (.sipush 10001, 3) := by decide +kernel
theorem dX8_readLine_21 : decode cX8_readLine 21 = .ok (.if_icmp .eq 9, 3) := by decide +kernel
theorem dX8_readLine_24 : decode cX8_readLine 24 = .ok (.aload_n 0, 1) := by decide +kernel
theorem dX8_readLine_25 : decode cX8_readLine 25 = .ok (.iconst 1, 1) := by decide +kernel
theorem dX8_readLine_26 : decode cX8_readLine 26 = .ok (.invokevirtual 105, 3) := by decide +kernel
theorem dX8_readLine_29 : decode cX8_readLine 29 = .ok (.ireturn, 1) := by decide +kernel
theorem dX8_readLine_30 : decode cX8_readLine 30 = .ok (.aload_n 0, 1) := by decide +kernel
theorem dX8_readLine_31 : decode cX8_readLine 31 = .ok (.getfield 21, 3) := by decide +kernel
theorem dX8_readLine_34 : decode cX8_readLine 34 = .ok (.getfield 108, 3) := by decide +kernel
theorem dX8_readLine_37 : decode cX8_readLine 37 = .ok (.bipush 16, 2) := by decide +kernel
theorem dX8_readLine_39 : decode cX8_readLine 39 = .ok (.if_icmp .lt 9, 3) := by decide +kernel
theorem dX8_readLine_42 : decode cX8_readLine 42 = .ok (.aload_n 0, 1) := by decide +kernel
theorem dX8_readLine_43 : decode cX8_readLine 43 = .ok (.iconst 3, 1) := by decide +kernel
theorem dX8_readLine_44 : decode cX8_readLine 44 = .ok (.invokevirtual 105, 3) := by decide +kernel
theorem dX8_readLine_47 : decode cX8_readLine 47 = .ok (.ireturn, 1) := by decide +kernel
theorem dX8_readLine_48 : decode cX8_readLine 48 = .ok (.aload_n 0, 1) := by decide +kernel
theorem dX8_readLine_49 : decode cX8_readLine 49 = .ok (.invokevirtual 111, 3) := by decide +kernel
theorem dX8_readLine_52 : decode cX8_readLine 52 = .ok (.aload_n 0, 1) := by decide +kernel
theorem dX8_readLine_53 : decode cX8_readLine 53 = .ok (.getfield 9, 3) := by decide +kernel
theorem dX8_readLine_56 : decode cX8_readLine 56 = .ok (.aload_n 0, 1) := by decide +kernel
theorem dX8_readLine_57 : decode cX8_readLine 57 = .ok (.getfield 25, 3) := by decide +kernel
theorem dX8_readLine_60 : decode cX8_readLine 60 = .ok (.iaload, 1) := by decide +kernel
theorem dX8_readLine_61 : decode cX8_readLine 61 = .ok (.sipush 10002, 3) := by decide +kernel
theorem dX8_readLine_64 : decode cX8_readLine 64 = .ok (.if_icmp .ne 17, 3) := by decide +kernel
theorem dX8_readLine_67 : decode cX8_readLine 67 = .ok (.aload_n 0, 1) := by decide +kernel
theorem dX8_readLine_68 : decode cX8_readLine 68 = .ok (.invokevirtual 111, 3) := by decide +kernel
theorem dX8_readLine_71 : decode cX8_readLine 71 = .ok (.aload_n 0, 1) := by decide +kernel
theorem dX8_readLine_72 : decode cX8_readLine 72 = .ok (.iconst 0, 1) := by decide +kernel
theorem dX8_readLine_73 : decode cX8_readLine 73 = .ok (.invokevirtual 114, 3) := by decide +kernel
theorem dX8_readLine_76 : decode cX8_readLine 76 = .ok (.ifCond .ne 5, 3) := by decide +kernel
theorem dX8_readLine_79 : decode cX8_readLine 79 = .ok (.iconst 0, 1) := by decide +kernel
theorem dX8_readLine_80 : decode cX8_readLine 80 = .ok (.ireturn, 1) := by decide +kernel
theorem dX8_readLine_81 : decode cX8_readLine 81 = .ok (.aload_n 0, 1) := by decide +kernel
theorem dX8_readLine_82 : decode cX8_readLine 82 = .ok (.getfield 9, 3) := by decide +kernel
theorem dX8_readLine_85 : decode cX8_readLine 85 = .ok (.aload_n 0, 1) := by decide +kernel
theorem dX8_readLine_86 : decode cX8_readLine 86 = .ok (.getfield 25, 3) := by decide +kernel
theorem dX8_readLine_89 : decode cX8_readLine 89 = .ok (.iaload, 1) := by decide +kernel
theorem dX8_readLine_90 : decode cX8_readLine 90 = .ok (.sipush 10100, 3) := by decide +kernel
theorem dX8_readLine_93 : decode cX8_readLine 93 = .ok (.if_icmp .eq 9, 3) := by decide +kernel
theorem dX8_readLine_96 : decode cX8_readLine 96 = .ok (.aload_n 0, 1) := by decide +kernel
theorem dX8_readLine_97 : decode cX8_readLine 97 = .ok (.iconst 1, 1) := by decide +kernel
theorem dX8_readLine_98 : decode cX8_readLine 98 = .ok (.invokevirtual 105, 3) := by decide +kernel
theorem dX8_readLine_101 : decode cX8_readLine 101 = .ok (.ireturn, 1) := by decide +kernel
theorem dX8_readLine_102 : decode cX8_readLine 102 = .ok (.aload_n 0, 1) := by decide +kernel
theorem dX8_readLine_103 : decode cX8_readLine 103 = .ok (.invokevirtual 111, 3) := by decide +kernel
theorem dX8_readLine_106 : decode cX8_readLine 106 = .ok (.aload_n 0, 1) := by decide +kernel
theorem dX8_readLine_107 : decode cX8_readLine 107 = .ok (.getfield 21, 3) := by decide +kernel
theorem dX8_readLine_110 : decode cX8_readLine 110 = .ok (.iload_n 1, 1) := by decide +kernel
theorem dX8_readLine_111 : decode cX8_readLine 111 = .ok (.invokevirtual 117, 3) := by decide +kernel
theorem dX8_readLine_114 : decode cX8_readLine 114 = .ok (.iconst 1, 1) := by decide +kernel
theorem dX8_readLine_115 : decode cX8_readLine 115 = .ok (.ireturn, 1) := by decide +kernel
theorem dX8_readCondition_0 : decode cX8_readCondition 0 = .ok (.aload_n 0, 1) := by decide +kernel
theorem dX8_readCondition_1 : decode cX8_readCondition 1 = .ok (.iload_n 1, 1) := by decide +kernel
theorem dX8_readCondition_2 : decode cX8_readCondition 2 = .ok (.invokevirtual 121, 3) := by decide +kernel
theorem dX8_readCondition_5 : decode cX8_readCondition 5 = .ok (.ifCond .ne 5, 3) := by decide +kernel
theorem dX8_readCondition_8 : decode cX8_readCondition 8 = .ok (.iconst 0, 1) := by decide +kernel
theorem dX8_readCondition_9 : decode cX8_readCondition 9 = .ok (.ireturn, 1) := by decide +kernel
theorem dX8_readCondition_10 : decode cX8_readCondition 10 = .ok (.iconst (-1), 1) := by decide +kernel
theorem dX8_readCondition_11 : decode cX8_readCondition 11 = .ok (.istore_n 2, 1) := by decide +kernel
theorem dX8_readCondition_12 : decode cX8_readCondition 12 = .ok (.iconst 0, 1) := by decide +kernel
theorem dX8_readCondition_13 : decode cX8_readCondition 13 = .ok (.istore_n 3, 1) := by decide +kernel
theorem dX8_readCondition_14 : decode cX8_readCondition 14 = .ok (.iload_n 3, 1) := by decide +kernel
theorem dX8_readCondition_15 : decode cX8_readCondition 15 = .ok (.sipush 400, 3) := by decide +kernel
theorem dX8_readCondition_18 : decode cX8_readCondition 18 = .ok (.if_icmp .ge 102, 3) := by decide +kernel
theorem dX8_readCondition_21 : decode cX8_readCondition 21 = .ok (.aload_n 0, 1) := by decide +kernel
theorem dX8_readCondition_22 : decode cX8_readCondition 22 = .ok (.getfield 9, 3) := by decide +kernel
theorem dX8_readCondition_25 : decode cX8_readCondition 25 = .ok (.aload_n 0, 1) := by decide +kernel
theorem dX8_readCondition_26 : decode cX8_readCondition 26 = .ok (.getfield 25, 3) := by decide +kernel
theorem dX8_readCondition_29 : decode cX8_readCondition 29 = .ok (.iaload, 1) := by decide +kernel
theorem dX8_readCondition_30 : decode cX8_readCondition 30 = .ok (.sipush 10003, 3) := by decide +kernel
theorem dX8_readCondition_33 : decode cX8_readCondition 33 = .ok (.if_icmp .eq 18, 3) := by decide +kernel
theorem dX8_readCondition_36 : decode cX8_readCondition 36 = .ok (.aload_n 0, 1) := by decide +kernel
theorem dX8_readCondition_37 : decode cX8_readCondition 37 = .ok (.getfield 9, 3) := by decide +kernel
theorem dX8_readCondition_40 : decode cX8_readCondition 40 = .ok (.aload_n 0, 1) := by decide +kernel
theorem dX8_readCondition_41 : decode cX8_readCondition 41 = .ok (.getfield 25, 3) := by decide +kernel
theorem dX8_readCondition_44 : decode cX8_readCondition 44 = .ok (.iaload, 1) := by decide +kernel
theorem dX8_readCondition_45 : decode cX8_readCondition 45 = .ok (.sipush 10004, 3) := by decide +kernel
theorem dX8_readCondition_48 : decode cX8_readCondition 48 = .ok (.if_icmp .ne 72, 3) := by decide +kernel
theorem dX8_readCondition_51 : decode cX8_readCondition 51 = .ok (.aload_n 0, 1) := by decide +kernel
theorem dX8_readCondition_52 : decode cX8_readCondition 52 = .ok (.getfield 9, 3) := by decide +kernel
theorem dX8_readCondition_55 : decode cX8_readCondition 55 = .ok (.aload_n 0, 1) := by decide +kernel
theorem dX8_readCondition_56 : decode cX8_readCondition 56 = .ok (.getfield 25, 3) := by decide +kernel
theorem dX8_readCondition_59 : decode cX8_readCondition 59 = .ok (.iaload, 1) := by decide +kernel
theorem dX8_readCondition_60 : decode cX8_readCondition 60 = .ok (.istore 4, 2) := by decide +kernel
theorem dX8_readCondition_62 : decode cX8_readCondition 62 = .ok (.aload_n 0, 1) := by decide +kernel
theorem dX8_readCondition_63 : decode cX8_readCondition 63 = .ok (.invokevirtual 111, 3) := by decide +kernel
theorem dX8_readCondition_66 : decode cX8_readCondition 66 = .ok (.iload 4, 2) := by decide +kernel
theorem dX8_readCondition_68 : decode cX8_readCondition 68 = .ok (.sipush 10003, 3) := by decide +kernel
theorem dX8_readCondition_71 : decode cX8_readCondition 71 = .ok (.if_icmp .ne 15, 3) := by decide +kernel
theorem dX8_readCondition_74 : decode cX8_readCondition 74 = .ok (.aload_n 0, 1) := by decide +kernel
theorem dX8_readCondition_75 : decode cX8_readCondition 75 = .ok (.getfield 21, 3) := by decide +kernel
theorem dX8_readCondition_78 : decode cX8_readCondition 78 = .ok (.iload_n 2, 1) := by decide +kernel
theorem dX8_readCondition_79 : decode cX8_readCondition 79 = .ok (.invokevirtual 124, 3) := by decide +kernel
theorem dX8_readCondition_82 : decode cX8_readCondition 82 = .ok (.sipush 10003, 3) := by decide +kernel
theorem dX8_readCondition_85 : decode cX8_readCondition 85 = .ok (.istore_n 2, 1) := by decide +kernel
theorem dX8_readCondition_86 : decode cX8_readCondition 86 = .ok (.aload_n 0, 1) := by decide +kernel
theorem dX8_readCondition_87 : decode cX8_readCondition 87 = .ok (.iload_n 1, 1) := by decide +kernel
theorem dX8_readCondition_88 : decode cX8_readCondition 88 = .ok (.invokevirtual 121, 3) := by decide +kernel
theorem dX8_readCondition_91 : decode cX8_readCondition 91 = .ok (.ifCond .ne 5, 3) := by decide +kernel
theorem dX8_readCondition_94 : decode cX8_readCondition 94 = .ok (.iconst 0, 1) := by decide +kernel
theorem dX8_readCondition_95 : decode cX8_readCondition 95 = .ok (.ireturn, 1) := by decide +kernel
theorem dX8_readCondition_96 : decode cX8_readCondition 96 = .ok (.iload 4, 2) := by decide +kernel
theorem dX8_readCondition_98 : decode cX8_readCondition 98 = .ok (.sipush 10004, 3) := by decide +kernel
theorem dX8_readCondition_101 : decode cX8_readCondition 101 = .ok (.if_icmp .ne 13, 3) := by decide +kernel
theorem dX8_readCondition_104 : decode cX8_readCondition 104 = .ok (.aload_n 0, 1) := by decide +kernel
theorem dX8_readCondition_105 : decode cX8_readCondition 105 = .ok (.getfield 21, 3) := by decide +kernel
theorem dX8_readCondition_108 : decode cX8_readCondition 108 = .ok (.sipush 10004, 3) := by decide +kernel
theorem dX8_readCondition_111 : decode cX8_readCondition 111 = .ok (.invokevirtual 124, 3) := by decide +kernel
theorem dX8_readCondition_114 : decode cX8_readCondition 114 = .ok (.iinc 3 1, 3) := by decide +kernel
theorem dX8_readCondition_117 : decode cX8_readCondition 117 = .ok (.goto (-103), 3) := by decide +kernel
theorem dX8_readCondition_120 : decode cX8_readCondition 120 = .ok (.aload_n 0, 1) := by decide +kernel
theorem dX8_readCondition_121 : decode cX8_readCondition 121 = .ok (.getfield 21, 3) := by decide +kernel
theorem dX8_readCondition_124 : decode cX8_readCondition 124 = .ok (.iload_n 2, 1) := by decide +kernel
theorem dX8_readCondition_125 : decode cX8_readCondition 125 = .ok (.invokevirtual 124, 3) := by decide +kernel
theorem dX8_readCondition_128 : decode cX8_readCondition 128 = .ok (.iconst 1, 1) := by decide +kernel
theorem dX8_readCondition_129 : decode cX8_readCondition 129 = .ok (.ireturn, 1) := by decide +kernel
theorem dX8_readClaim_0 : decode cX8_readClaim 0 = .ok (.aload_n 0, 1) := by decide +kernel
theorem dX8_readClaim_1 : decode cX8_readClaim 1 = .ok (.getfield 9, 3) := by decide +kernel
theorem dX8_readClaim_4 : decode cX8_readClaim 4 = .ok (.aload_n 0, 1) := by decide +kernel
theorem dX8_readClaim_5 : decode cX8_readClaim 5 = .ok (.getfield 25, 3) := by decide +kernel
theorem dX8_readClaim_8 : decode cX8_readClaim 8 = .ok (.iaload, 1) := by decide +kernel
theorem dX8_readClaim_9 : decode cX8_readClaim 9 = .ok (.istore_n 2, 1) := by decide +kernel
theorem dX8_readClaim_10 : decode cX8_readClaim 10 = .ok (.iload_n 2, 1) := by decide +kernel
theorem dX8_readClaim_11 : decode cX8_readClaim 11 = .ok (.sipush 10005, 3) := by decide +kernel
theorem dX8_readClaim_14 : decode cX8_readClaim 14 = .ok (.if_icmp .eq 10, 3) := by decide +kernel
theorem dX8_readClaim_17 : decode cX8_readClaim 17 = .ok (.iload_n 2, 1) := by decide +kernel
theorem dX8_readClaim_18 : decode cX8_readClaim 18 = .ok (.sipush 10105, 3) := by decide +kernel
theorem dX8_readClaim_21 : decode cX8_readClaim 21 = .ok (.if_icmp .ne 44, 3) := by decide +kernel
theorem dX8_readClaim_24 : decode cX8_readClaim 24 = .ok (.iload_n 1, 1) := by decide +kernel
theorem dX8_readClaim_25 : decode cX8_readClaim 25 = .ok (.bipush 8, 2) := by decide +kernel
theorem dX8_readClaim_27 : decode cX8_readClaim 27 = .ok (.if_icmp .lt 9, 3) := by decide +kernel
theorem dX8_readClaim_30 : decode cX8_readClaim 30 = .ok (.aload_n 0, 1) := by decide +kernel
theorem dX8_readClaim_31 : decode cX8_readClaim 31 = .ok (.iconst 3, 1) := by decide +kernel
theorem dX8_readClaim_32 : decode cX8_readClaim 32 = .ok (.invokevirtual 105, 3) := by decide +kernel
theorem dX8_readClaim_35 : decode cX8_readClaim 35 = .ok (.ireturn, 1) := by decide +kernel
theorem dX8_readClaim_36 : decode cX8_readClaim 36 = .ok (.aload_n 0, 1) := by decide +kernel
theorem dX8_readClaim_37 : decode cX8_readClaim 37 = .ok (.invokevirtual 111, 3) := by decide +kernel
theorem dX8_readClaim_40 : decode cX8_readClaim 40 = .ok (.iload_n 2, 1) := by decide +kernel
theorem dX8_readClaim_41 : decode cX8_readClaim 41 = .ok (.sipush 10005, 3) := by decide +kernel
theorem dX8_readClaim_44 : decode cX8_readClaim 44 = .ok (.if_icmp .ne 13, 3) := by decide +kernel
theorem dX8_readClaim_47 : decode cX8_readClaim 47 = .ok (.aload_n 0, 1) := by decide +kernel
theorem dX8_readClaim_48 : decode cX8_readClaim 48 = .ok (.iload_n 1, 1) := by decide +kernel
theorem dX8_readClaim_49 : decode cX8_readClaim 49 = .ok (.iconst 1, 1) := by decide +kernel
theorem dX8_readClaim_50 : decode cX8_readClaim 50 = .ok (.iadd, 1) := by decide +kernel
theorem dX8_readClaim_51 : decode cX8_readClaim 51 = .ok (.invokevirtual 127, 3) := by decide +kernel
theorem dX8_readClaim_54 : decode cX8_readClaim 54 = .ok (.goto 10, 3) := by decide +kernel
theorem dX8_readClaim_57 : decode cX8_readClaim 57 = .ok (.aload_n 0, 1) := by decide +kernel
theorem dX8_readClaim_58 : decode cX8_readClaim 58 = .ok (.iload_n 1, 1) := by decide +kernel
theorem dX8_readClaim_59 : decode cX8_readClaim 59 = .ok (.iconst 1, 1) := by decide +kernel
theorem dX8_readClaim_60 : decode cX8_readClaim 60 = .ok (.iadd, 1) := by decide +kernel
theorem dX8_readClaim_61 : decode cX8_readClaim 61 = .ok (.invokevirtual 130, 3) := by decide +kernel
theorem dX8_readClaim_64 : decode cX8_readClaim 64 = .ok (.ireturn, 1) := by decide +kernel
theorem dX8_readClaim_65 : decode cX8_readClaim 65 = .ok (.aload_n 0, 1) := by decide +kernel
theorem dX8_readClaim_66 : decode cX8_readClaim 66 = .ok (.invokevirtual 133, 3) := by decide +kernel
theorem dX8_readClaim_69 : decode cX8_readClaim 69 = .ok (.ifCond .ne 5, 3) := by decide +kernel
theorem dX8_readClaim_72 : decode cX8_readClaim 72 = .ok (.iconst 0, 1) := by decide +kernel
theorem dX8_readClaim_73 : decode cX8_readClaim 73 = .ok (.ireturn, 1) := by decide +kernel
theorem dX8_readClaim_74 : decode cX8_readClaim 74 = .ok (.aload_n 0, 1) := by decide +kernel
theorem dX8_readClaim_75 : decode cX8_readClaim 75 = .ok (.getfield 9, 3) := by decide +kernel
theorem dX8_readClaim_78 : decode cX8_readClaim 78 = .ok (.aload_n 0, 1) := by decide +kernel
theorem dX8_readClaim_79 : decode cX8_readClaim 79 = .ok (.getfield 25, 3) := by decide +kernel
theorem dX8_readClaim_82 : decode cX8_readClaim 82 = .ok (.iaload, 1) := by decide +kernel
theorem dX8_readClaim_83 : decode cX8_readClaim 83 = .ok (.istore_n 3, 1) := by decide +kernel
theorem dX8_readClaim_84 : decode cX8_readClaim 84 = .ok (.iload_n 3, 1) := by decide +kernel
theorem dX8_readClaim_85 : decode cX8_readClaim 85 = .ok (.sipush 10107, 3) := by decide +kernel
theorem dX8_readClaim_88 : decode cX8_readClaim 88 = .ok (.if_icmp .eq 23, 3) := by decide +kernel
theorem dX8_readClaim_91 : decode cX8_readClaim 91 = .ok (.iload_n 3, 1) := by decide +kernel
theorem dX8_readClaim_92 : decode cX8_readClaim 92 = .ok (.sipush 10108, 3) := by decide +kernel
theorem dX8_readClaim_95 : decode cX8_readClaim 95 = .ok (.if_icmp .eq 16, 3) := by decide +kernel
theorem dX8_readClaim_98 : decode cX8_readClaim 98 = .ok (.iload_n 3, 1) := by decide +kernel
theorem dX8_readClaim_99 : decode cX8_readClaim 99 = .ok (.sipush 10109, 3) := by decide +kernel
theorem dX8_readClaim_102 : decode cX8_readClaim 102 = .ok (.if_icmp .eq 9, 3) := by decide +kernel
theorem dX8_readClaim_105 : decode cX8_readClaim 105 = .ok (.aload_n 0, 1) := by decide +kernel
theorem dX8_readClaim_106 : decode cX8_readClaim 106 = .ok (.iconst 1, 1) := by decide +kernel
theorem dX8_readClaim_107 : decode cX8_readClaim 107 = .ok (.invokevirtual 105, 3) := by decide +kernel
theorem dX8_readClaim_110 : decode cX8_readClaim 110 = .ok (.ireturn, 1) := by decide +kernel
theorem dX8_readClaim_111 : decode cX8_readClaim 111 = .ok (.aload_n 0, 1) := by decide +kernel
theorem dX8_readClaim_112 : decode cX8_readClaim 112 = .ok (.invokevirtual 111, 3) := by decide +kernel
theorem dX8_readClaim_115 : decode cX8_readClaim 115 = .ok (.aload_n 0, 1) := by decide +kernel
theorem dX8_readClaim_116 : decode cX8_readClaim 116 = .ok (.invokevirtual 133, 3) := by decide +kernel
theorem dX8_readClaim_119 : decode cX8_readClaim 119 = .ok (.istore 4, 2) := by decide +kernel
theorem dX8_readClaim_121 : decode cX8_readClaim 121 = .ok (.aload_n 0, 1) := by decide +kernel
theorem dX8_readClaim_122 : decode cX8_readClaim 122 = .ok (.getfield 21, 3) := by decide +kernel
theorem dX8_readClaim_125 : decode cX8_readClaim 125 = .ok (.iload_n 3, 1) := by decide +kernel
theorem dX8_readClaim_126 : decode cX8_readClaim 126 = .ok (.invokevirtual 124, 3) := by decide +kernel
theorem dX8_readClaim_129 : decode cX8_readClaim 129 = .ok (.iload 4, 2) := by decide +kernel
theorem dX8_readClaim_131 : decode cX8_readClaim 131 = .ok (.ireturn, 1) := by decide +kernel
theorem dX8_readDenied_0 : decode cX8_readDenied 0 = .ok (.aload_n 0, 1) := by decide +kernel
theorem dX8_readDenied_1 : decode cX8_readDenied 1 = .ok (.iload_n 1, 1) := by decide +kernel
theorem dX8_readDenied_2 : decode cX8_readDenied 2 = .ok (.invokevirtual 121, 3) := by decide +kernel
theorem dX8_readDenied_5 : decode cX8_readDenied 5 = .ok (.istore_n 2, 1) := by decide +kernel
theorem dX8_readDenied_6 : decode cX8_readDenied 6 = .ok (.aload_n 0, 1) := by decide +kernel
theorem dX8_readDenied_7 : decode cX8_readDenied 7 = .ok (.getfield 21, 3) := by decide +kernel
theorem dX8_readDenied_10 : decode cX8_readDenied 10 = .ok (.sipush 10005, 3) := by decide +kernel
theorem dX8_readDenied_13 : decode cX8_readDenied 13 = .ok (.invokevirtual 124, 3) := by decide +kernel
theorem dX8_readDenied_16 : decode cX8_readDenied 16 = .ok (.iload_n 2, 1) := by decide +kernel
theorem dX8_readDenied_17 : decode cX8_readDenied 17 = .ok (.ireturn, 1) := by decide +kernel
theorem dX8_readBracket_0 : decode cX8_readBracket 0 = .ok (.aload_n 0, 1) := by decide +kernel
theorem dX8_readBracket_1 : decode cX8_readBracket 1 = .ok (.iload_n 1, 1) := by decide +kernel
theorem dX8_readBracket_2 : decode cX8_readBracket 2 = .ok (.invokevirtual 114, 3) := by decide +kernel
theorem dX8_readBracket_5 : decode cX8_readBracket 5 = .ok (.ifCond .ne 5, 3) := by decide +kernel
theorem dX8_readBracket_8 : decode cX8_readBracket 8 = .ok (.iconst 0, 1) := by decide +kernel
theorem dX8_readBracket_9 : decode cX8_readBracket 9 = .ok (.ireturn, 1) := by decide +kernel
theorem dX8_readBracket_10 : decode cX8_readBracket 10 = .ok (.aload_n 0, 1) := by decide +kernel
theorem dX8_readBracket_11 : decode cX8_readBracket 11 = .ok (.getfield 9, 3) := by decide +kernel
theorem dX8_readBracket_14 : decode cX8_readBracket 14 = .ok (.aload_n 0, 1) := by decide +kernel
theorem dX8_readBracket_15 : decode cX8_readBracket 15 = .ok (.getfield 25, 3) := by decide +kernel
theorem dX8_readBracket_18 : decode cX8_readBracket 18 = .ok (.iaload, 1) := by decide +kernel
theorem dX8_readBracket_19 : decode cX8_readBracket 19 = .ok (.sipush 10106, 3) := by decide +kernel
theorem dX8_readBracket_22 : decode cX8_readBracket 22 = .ok (.if_icmp .eq 9, 3) := by decide +kernel
theorem dX8_readBracket_25 : decode cX8_readBracket 25 = .ok (.aload_n 0, 1) := by decide +kernel
theorem dX8_readBracket_26 : decode cX8_readBracket 26 = .ok (.iconst 1, 1) := by decide +kernel
theorem dX8_readBracket_27 : decode cX8_readBracket 27 = .ok (.invokevirtual 105, 3) := by decide +kernel
theorem dX8_readBracket_30 : decode cX8_readBracket 30 = .ok (.ireturn, 1) := by decide +kernel
theorem dX8_readBracket_31 : decode cX8_readBracket 31 = .ok (.aload_n 0, 1) := by decide +kernel
theorem dX8_readBracket_32 : decode cX8_readBracket 32 = .ok (.invokevirtual 111, 3) := by decide +kernel
theorem dX8_readBracket_35 : decode cX8_readBracket 35 = .ok (.iconst 1, 1) := by decide +kernel
theorem dX8_readBracket_36 : decode cX8_readBracket 36 = .ok (.ireturn, 1) := by decide +kernel
theorem dX8_readSum_0 : decode cX8_readSum 0 = .ok (.aload_n 0, 1) := by decide +kernel
theorem dX8_readSum_1 : decode cX8_readSum 1 = .ok (.iconst (-1), 1) := by decide +kernel
theorem dX8_readSum_2 : decode cX8_readSum 2 = .ok (.invokevirtual 136, 3) := by decide +kernel
theorem dX8_readSum_5 : decode cX8_readSum 5 = .ok (.ifCond .ne 5, 3) := by decide +kernel
theorem dX8_readSum_8 : decode cX8_readSum 8 = .ok (.iconst 0, 1) := by decide +kernel
theorem dX8_readSum_9 : decode cX8_readSum 9 = .ok (.ireturn, 1) := by decide +kernel
theorem dX8_readSum_10 : decode cX8_readSum 10 = .ok (.iconst (-1), 1) := by decide +kernel
theorem dX8_readSum_11 : decode cX8_readSum 11 = .ok (.istore_n 1, 1) := by decide +kernel
theorem dX8_readSum_12 : decode cX8_readSum 12 = .ok (.iconst 0, 1) := by decide +kernel
theorem dX8_readSum_13 : decode cX8_readSum 13 = .ok (.istore_n 2, 1) := by decide +kernel
theorem dX8_readSum_14 : decode cX8_readSum 14 = .ok (.iload_n 2, 1) := by decide +kernel
theorem dX8_readSum_15 : decode cX8_readSum 15 = .ok (.sipush 400, 3) := by decide +kernel
theorem dX8_readSum_18 : decode cX8_readSum 18 = .ok (.if_icmp .ge 109, 3) := by decide +kernel
theorem dX8_readSum_21 : decode cX8_readSum 21 = .ok (.aload_n 0, 1) := by decide +kernel
theorem dX8_readSum_22 : decode cX8_readSum 22 = .ok (.getfield 9, 3) := by decide +kernel
theorem dX8_readSum_25 : decode cX8_readSum 25 = .ok (.aload_n 0, 1) := by decide +kernel
theorem dX8_readSum_26 : decode cX8_readSum 26 = .ok (.getfield 25, 3) := by decide +kernel
theorem dX8_readSum_29 : decode cX8_readSum 29 = .ok (.iaload, 1) := by decide +kernel
theorem dX8_readSum_30 : decode cX8_readSum 30 = .ok (.sipush 10101, 3) := by decide +kernel
theorem dX8_readSum_33 : decode cX8_readSum 33 = .ok (.if_icmp .lt 94, 3) := by decide +kernel
theorem dX8_readSum_36 : decode cX8_readSum 36 = .ok (.aload_n 0, 1) := by decide +kernel
theorem dX8_readSum_37 : decode cX8_readSum 37 = .ok (.getfield 9, 3) := by decide +kernel
theorem dX8_readSum_40 : decode cX8_readSum 40 = .ok (.aload_n 0, 1) := by decide +kernel
theorem dX8_readSum_41 : decode cX8_readSum 41 = .ok (.getfield 25, 3) := by decide +kernel
theorem dX8_readSum_44 : decode cX8_readSum 44 = .ok (.iaload, 1) := by decide +kernel
theorem dX8_readSum_45 : decode cX8_readSum 45 = .ok (.sipush 10104, 3) := by decide +kernel
theorem dX8_readSum_48 : decode cX8_readSum 48 = .ok (.if_icmp .gt 79, 3) := by decide +kernel
theorem dX8_readSum_51 : decode cX8_readSum 51 = .ok (.aload_n 0, 1) := by decide +kernel
theorem dX8_readSum_52 : decode cX8_readSum 52 = .ok (.getfield 9, 3) := by decide +kernel
theorem dX8_readSum_55 : decode cX8_readSum 55 = .ok (.aload_n 0, 1) := by decide +kernel
theorem dX8_readSum_56 : decode cX8_readSum 56 = .ok (.getfield 25, 3) := by decide +kernel
theorem dX8_readSum_59 : decode cX8_readSum 59 = .ok (.iaload, 1) := by decide +kernel
theorem dX8_readSum_60 : decode cX8_readSum 60 = .ok (.istore_n 3, 1) := by decide +kernel
theorem dX8_readSum_61 : decode cX8_readSum 61 = .ok (.aload_n 0, 1) := by decide +kernel
theorem dX8_readSum_62 : decode cX8_readSum 62 = .ok (.invokevirtual 111, 3) := by decide +kernel
theorem dX8_readSum_65 : decode cX8_readSum 65 = .ok (.iload_n 3, 1) := by decide +kernel
theorem dX8_readSum_66 : decode cX8_readSum 66 = .ok (.sipush 10101, 3) := by decide +kernel
theorem dX8_readSum_69 : decode cX8_readSum 69 = .ok (.if_icmp .eq 10, 3) := by decide +kernel
theorem dX8_readSum_72 : decode cX8_readSum 72 = .ok (.iload_n 3, 1) := by decide +kernel
theorem dX8_readSum_73 : decode cX8_readSum 73 = .ok (.sipush 10102, 3) := by decide +kernel
theorem dX8_readSum_76 : decode cX8_readSum 76 = .ok (.if_icmp .ne 13, 3) := by decide +kernel
theorem dX8_readSum_79 : decode cX8_readSum 79 = .ok (.aload_n 0, 1) := by decide +kernel
theorem dX8_readSum_80 : decode cX8_readSum 80 = .ok (.getfield 21, 3) := by decide +kernel
theorem dX8_readSum_83 : decode cX8_readSum 83 = .ok (.iload_n 1, 1) := by decide +kernel
theorem dX8_readSum_84 : decode cX8_readSum 84 = .ok (.invokevirtual 124, 3) := by decide +kernel
theorem dX8_readSum_87 : decode cX8_readSum 87 = .ok (.iload_n 3, 1) := by decide +kernel
theorem dX8_readSum_88 : decode cX8_readSum 88 = .ok (.istore_n 1, 1) := by decide +kernel
theorem dX8_readSum_89 : decode cX8_readSum 89 = .ok (.aload_n 0, 1) := by decide +kernel
theorem dX8_readSum_90 : decode cX8_readSum 90 = .ok (.iload_n 3, 1) := by decide +kernel
theorem dX8_readSum_91 : decode cX8_readSum 91 = .ok (.invokevirtual 136, 3) := by decide +kernel
theorem dX8_readSum_94 : decode cX8_readSum 94 = .ok (.ifCond .ne 5, 3) := by decide +kernel
theorem dX8_readSum_97 : decode cX8_readSum 97 = .ok (.iconst 0, 1) := by decide +kernel
theorem dX8_readSum_98 : decode cX8_readSum 98 = .ok (.ireturn, 1) := by decide +kernel
theorem dX8_readSum_99 : decode cX8_readSum 99 = .ok (.iload_n 3, 1) := by decide +kernel
theorem dX8_readSum_100 : decode cX8_readSum 100 = .ok (.sipush 10103, 3) := by decide +kernel
theorem dX8_readSum_103 : decode cX8_readSum 103 = .ok (.if_icmp .eq 10, 3) := by decide +kernel
theorem dX8_readSum_106 : decode cX8_readSum 106 = .ok (.iload_n 3, 1) := by decide +kernel
theorem dX8_readSum_107 : decode cX8_readSum 107 = .ok (.sipush 10104, 3) := by decide +kernel
theorem dX8_readSum_110 : decode cX8_readSum 110 = .ok (.if_icmp .ne 11, 3) := by decide +kernel
theorem dX8_readSum_113 : decode cX8_readSum 113 = .ok (.aload_n 0, 1) := by decide +kernel
theorem dX8_readSum_114 : decode cX8_readSum 114 = .ok (.getfield 21, 3) := by decide +kernel
theorem dX8_readSum_117 : decode cX8_readSum 117 = .ok (.iload_n 3, 1) := by decide +kernel
theorem dX8_readSum_118 : decode cX8_readSum 118 = .ok (.invokevirtual 124, 3) := by decide +kernel
theorem dX8_readSum_121 : decode cX8_readSum 121 = .ok (.iinc 2 1, 3) := by decide +kernel
theorem dX8_readSum_124 : decode cX8_readSum 124 = .ok (.goto (-110), 3) := by decide +kernel
theorem dX8_readSum_127 : decode cX8_readSum 127 = .ok (.aload_n 0, 1) := by decide +kernel
theorem dX8_readSum_128 : decode cX8_readSum 128 = .ok (.getfield 21, 3) := by decide +kernel
theorem dX8_readSum_131 : decode cX8_readSum 131 = .ok (.iload_n 1, 1) := by decide +kernel
theorem dX8_readSum_132 : decode cX8_readSum 132 = .ok (.invokevirtual 124, 3) := by decide +kernel
theorem dX8_readSum_135 : decode cX8_readSum 135 = .ok (.iconst 1, 1) := by decide +kernel
theorem dX8_readSum_136 : decode cX8_readSum 136 = .ok (.ireturn, 1) := by decide +kernel
theorem dX8_readUnit_0 : decode cX8_readUnit 0 = .ok (.aload_n 0, 1) := by decide +kernel
theorem dX8_readUnit_1 : decode cX8_readUnit 1 = .ok (.getfield 9, 3) := by decide +kernel
theorem dX8_readUnit_4 : decode cX8_readUnit 4 = .ok (.aload_n 0, 1) := by decide +kernel
theorem dX8_readUnit_5 : decode cX8_readUnit 5 = .ok (.getfield 25, 3) := by decide +kernel
theorem dX8_readUnit_8 : decode cX8_readUnit 8 = .ok (.iaload, 1) := by decide +kernel
theorem dX8_readUnit_9 : decode cX8_readUnit 9 = .ok (.istore_n 2, 1) := by decide +kernel
theorem dX8_readUnit_10 : decode cX8_readUnit 10 = .ok (.iload_n 2, 1) := by decide +kernel
theorem dX8_readUnit_11 : decode cX8_readUnit 11 = .ok (.sipush 10000, 3) := by decide +kernel
theorem dX8_readUnit_14 : decode cX8_readUnit 14 = .ok (.if_icmp .ge 7, 3) := by decide +kernel
theorem dX8_readUnit_17 : decode cX8_readUnit 17 = .ok (.iconst 1, 1) := by decide +kernel
theorem dX8_readUnit_18 : decode cX8_readUnit 18 = .ok (.goto 4, 3) := by decide +kernel
theorem dX8_readUnit_21 : decode cX8_readUnit 21 = .ok (.iconst 0, 1) := by decide +kernel
theorem dX8_readUnit_22 : decode cX8_readUnit 22 = .ok (.istore_n 3, 1) := by decide +kernel
theorem dX8_readUnit_23 : decode cX8_readUnit 23 = .ok (.iload_n 2, 1) := by decide +kernel
theorem dX8_readUnit_24 : decode cX8_readUnit 24 = .ok (.sipush 10006, 3) := by decide +kernel
theorem dX8_readUnit_27 : decode cX8_readUnit 27 = .ok (.if_icmp .lt 14, 3) := by decide +kernel
theorem dX8_readUnit_30 : decode cX8_readUnit 30 = .ok (.iload_n 2, 1) := by decide +kernel
theorem dX8_readUnit_31 : decode cX8_readUnit 31 = .ok (.sipush 10015, 3) := by decide +kernel
theorem dX8_readUnit_34 : decode cX8_readUnit 34 = .ok (.if_icmp .gt 7, 3) := by decide +kernel
theorem dX8_readUnit_37 : decode cX8_readUnit 37 = .ok (.iconst 1, 1) := by decide +kernel
theorem dX8_readUnit_38 : decode cX8_readUnit 38 = .ok (.goto 4, 3) := by decide +kernel
theorem dX8_readUnit_41 : decode cX8_readUnit 41 = .ok (.iconst 0, 1) := by decide +kernel
theorem dX8_readUnit_42 : decode cX8_readUnit 42 = .ok (.istore 4, 2) := by decide +kernel
theorem dX8_readUnit_44 : decode cX8_readUnit 44 = .ok (.iload_n 3, 1) := by decide +kernel
theorem dX8_readUnit_45 : decode cX8_readUnit 45 = .ok (.ifCond .ne 21, 3) := by decide +kernel
theorem dX8_readUnit_48 : decode cX8_readUnit 48 = .ok (.iload 4, 2) := by decide +kernel
theorem dX8_readUnit_50 : decode cX8_readUnit 50 = .ok (.ifCond .eq 10, 3) := by decide +kernel
theorem dX8_readUnit_53 : decode cX8_readUnit 53 = .ok (.iload_n 1, 1) := by decide +kernel
theorem dX8_readUnit_54 : decode cX8_readUnit 54 = .ok (.sipush 10104, 3) := by decide +kernel
theorem dX8_readUnit_57 : decode cX8_readUnit 57 = .ok (.if_icmp .ne 9, 3) := by decide +kernel
theorem dX8_readUnit_60 : decode cX8_readUnit 60 = .ok (.aload_n 0, 1) := by decide +kernel
theorem dX8_readUnit_61 : decode cX8_readUnit 61 = .ok (.iconst 1, 1) := by decide +kernel
theorem dX8_readUnit_62 : decode cX8_readUnit 62 = .ok (.invokevirtual 105, 3) := by decide +kernel
theorem dX8_readUnit_65 : decode cX8_readUnit 65 = .ok (.ireturn, 1) := by decide +kernel
theorem dX8_readUnit_66 : decode cX8_readUnit 66 = .ok (.iload_n 2, 1) := by decide +kernel
theorem dX8_readUnit_67 : decode cX8_readUnit 67 = .ok (.ifCond .ne 16, 3) := by decide +kernel
theorem dX8_readUnit_70 : decode cX8_readUnit 70 = .ok (.iload_n 1, 1) := by decide +kernel
theorem dX8_readUnit_71 : decode cX8_readUnit 71 = .ok (.sipush 10104, 3) := by decide +kernel
theorem dX8_readUnit_74 : decode cX8_readUnit 74 = .ok (.if_icmp .ne 9, 3) := by decide +kernel
theorem dX8_readUnit_77 : decode cX8_readUnit 77 = .ok (.aload_n 0, 1) := by decide +kernel
theorem dX8_readUnit_78 : decode cX8_readUnit 78 = .ok (.iconst 2, 1) := by decide +kernel
theorem dX8_readUnit_79 : decode cX8_readUnit 79 = .ok (.invokevirtual 105, 3) := by decide +kernel
theorem dX8_readUnit_82 : decode cX8_readUnit 82 = .ok (.ireturn, 1) := by decide +kernel
theorem dX8_readUnit_83 : decode cX8_readUnit 83 = .ok (.aload_n 0, 1) := by decide +kernel
theorem dX8_readUnit_84 : decode cX8_readUnit 84 = .ok (.invokevirtual 111, 3) := by decide +kernel
theorem dX8_readUnit_87 : decode cX8_readUnit 87 = .ok (.aload_n 0, 1) := by decide +kernel
theorem dX8_readUnit_88 : decode cX8_readUnit 88 = .ok (.getfield 21, 3) := by decide +kernel
theorem dX8_readUnit_91 : decode cX8_readUnit 91 = .ok (.iload_n 2, 1) := by decide +kernel
theorem dX8_readUnit_92 : decode cX8_readUnit 92 = .ok (.invokevirtual 124, 3) := by decide +kernel
theorem dX8_readUnit_95 : decode cX8_readUnit 95 = .ok (.iconst 1, 1) := by decide +kernel
theorem dX8_readUnit_96 : decode cX8_readUnit 96 = .ok (.ireturn, 1) := by decide +kernel
theorem dX9_init_0 : decode cX9_init 0 = .ok (.aload_n 0, 1) := by decide +kernel
theorem dX9_init_1 : decode cX9_init 1 = .ok (.invokespecial 3, 3) := by decide +kernel
theorem dX9_init_4 : decode cX9_init 4 = .ok (.aload_n 0, 1) := by decide +kernel
theorem dX9_init_5 : decode cX9_init 5 = .ok (.sipush 400, 3) := by decide +kernel
theorem dX9_init_8 : decode cX9_init 8 = .ok (.newarray .int, 2) := by decide +kernel
theorem dX9_init_10 : decode cX9_init 10 = .ok (.putfield 9, 3) := by decide +kernel
theorem dX9_init_13 : decode cX9_init 13 = .ok (.aload_n 0, 1) := by decide +kernel
theorem dX9_init_14 : decode cX9_init 14 = .ok (.iconst 0, 1) := by decide +kernel
theorem dX9_init_15 : decode cX9_init 15 = .ok (.putfield 15, 3) := by decide +kernel
theorem dX9_init_18 : decode cX9_init 18 = .ok (.return_, 1) := by decide +kernel
theorem dX9_add_0 : decode cX9_add 0 = .ok (.bipush 24, 2) := by decide +kernel
theorem dX9_add_2 : decode cX9_add 2 = .ok (.istore_n 2, 1) := by decide +kernel
theorem dX9_add_3 : decode cX9_add 3 = .ok (.iload_n 2, 1) := by decide +kernel
theorem dX9_add_4 : decode cX9_add 4 = .ok (.ifCond .lt 45, 3) := by decide +kernel
theorem dX9_add_7 : decode cX9_add 7 = .ok (.aload_n 0, 1) := by decide +kernel
theorem dX9_add_8 : decode cX9_add 8 = .ok (.getfield 15, 3) := by decide +kernel
theorem dX9_add_11 : decode cX9_add 11 = .ok (.sipush 400, 3) := by decide +kernel
theorem dX9_add_14 : decode cX9_add 14 = .ok (.if_icmp .ge 35, 3) := by decide +kernel
theorem dX9_add_17 : decode cX9_add 17 = .ok (.aload_n 0, 1) := by decide +kernel
theorem dX9_add_18 : decode cX9_add 18 = .ok (.getfield 9, 3) := by decide +kernel
theorem dX9_add_21 : decode cX9_add 21 = .ok (.aload_n 0, 1) := by decide +kernel
theorem dX9_add_22 : decode cX9_add 22 = .ok (.getfield 15, 3) := by decide +kernel
theorem dX9_add_25 : decode cX9_add 25 = .ok (.iload_n 1, 1) := by decide +kernel
theorem dX9_add_26 : decode cX9_add 26 = .ok (.iload_n 2, 1) := by decide +kernel
theorem dX9_add_27 : decode cX9_add 27 = .ok (.iushr, 1) := by decide +kernel
theorem dX9_add_28 : decode cX9_add 28 = .ok (.sipush 255, 3) := by decide +kernel
theorem dX9_add_31 : decode cX9_add 31 = .ok (.iand, 1) := by decide +kernel
theorem dX9_add_32 : decode cX9_add 32 = .ok (.iastore, 1) := by decide +kernel
theorem dX9_add_33 : decode cX9_add 33 = .ok (.aload_n 0, 1) := by decide +kernel
theorem dX9_add_34 : decode cX9_add 34 = .ok (.dup, 1) := by decide +kernel
theorem dX9_add_35 : decode cX9_add 35 = .ok (.getfield 15, 3) := by decide +kernel
theorem dX9_add_38 : decode cX9_add 38 = .ok (.iconst 1, 1) := by decide +kernel
theorem dX9_add_39 : decode cX9_add 39 = .ok (.iadd, 1) := by decide +kernel
theorem dX9_add_40 : decode cX9_add 40 = .ok (.putfield 15, 3) := by decide +kernel
theorem dX9_add_43 : decode cX9_add 43 = .ok (.iinc 2 (-8), 3) := by decide +kernel
theorem dX9_add_46 : decode cX9_add 46 = .ok (.goto (-43), 3) := by decide +kernel
theorem dX9_add_49 : decode cX9_add 49 = .ok (.return_, 1) := by decide +kernel
theorem dX9_nameOnce_0 : decode cX9_nameOnce 0 = .ok (.aload_n 0, 1) := by decide +kernel
theorem dX9_nameOnce_1 : decode cX9_nameOnce 1 = .ok (.getfield 15, 3) := by decide +kernel
theorem dX9_nameOnce_4 : decode cX9_nameOnce 4 = .ok (.istore_n 1, 1) := by decide +kernel
theorem dX9_nameOnce_5 : decode cX9_nameOnce 5 = .ok (.aload_n 0, 1) := by decide +kernel
theorem dX9_nameOnce_6 : decode cX9_nameOnce 6 = .ok (.iconst 0, 1) := by decide +kernel
theorem dX9_nameOnce_7 : decode cX9_nameOnce 7 = .ok (.putfield 15, 3) := by decide +kernel
theorem dX9_nameOnce_10 : decode cX9_nameOnce 10 = .ok (.iload_n 1, 1) := by decide +kernel
theorem dX9_nameOnce_11 : decode cX9_nameOnce 11 = .ok (.bipush 6, 2) := by decide +kernel
theorem dX9_nameOnce_13 : decode cX9_nameOnce 13 = .ok (.if_icmp .le 5, 3) := by decide +kernel
theorem dX9_nameOnce_16 : decode cX9_nameOnce 16 = .ok (.iconst (-1), 1) := by decide +kernel
theorem dX9_nameOnce_17 : decode cX9_nameOnce 17 = .ok (.ireturn, 1) := by decide +kernel
theorem dX9_nameOnce_18 : decode cX9_nameOnce 18 = .ok (.iconst 0, 1) := by decide +kernel
theorem dX9_nameOnce_19 : decode cX9_nameOnce 19 = .ok (.istore_n 2, 1) := by decide +kernel
theorem dX9_nameOnce_20 : decode cX9_nameOnce 20 = .ok (.iconst 0, 1) := by decide +kernel
theorem dX9_nameOnce_21 : decode cX9_nameOnce 21 = .ok (.istore_n 3, 1) := by decide +kernel
theorem dX9_nameOnce_22 : decode cX9_nameOnce 22 = .ok (.iload_n 3, 1) := by decide +kernel
theorem dX9_nameOnce_23 : decode cX9_nameOnce 23 = .ok (.iload_n 1, 1) := by decide +kernel
theorem dX9_nameOnce_24 : decode cX9_nameOnce 24 = .ok (.if_icmp .ge 41, 3) := by decide +kernel
theorem dX9_nameOnce_27 : decode cX9_nameOnce 27 = .ok (.aload_n 0, 1) := by decide +kernel
theorem dX9_nameOnce_28 : decode cX9_nameOnce 28 = .ok (.getfield 9, 3) := by decide +kernel
theorem dX9_nameOnce_31 : decode cX9_nameOnce 31 = .ok (.iload_n 3, 1) := by decide +kernel
theorem dX9_nameOnce_32 : decode cX9_nameOnce 32 = .ok (.iaload, 1) := by decide +kernel
theorem dX9_nameOnce_33 : decode cX9_nameOnce 33 = .ok (.invokestatic 19, 3) := by decide +kernel
theorem dX9_nameOnce_36 : decode cX9_nameOnce 36 = .ok (.ifCond .ne 5, 3) := by decide +kernel
theorem dX9_nameOnce_39 : decode cX9_nameOnce 39 = .ok (.iconst (-1), 1) := by decide +kernel
theorem dX9_nameOnce_40 : decode cX9_nameOnce 40 = .ok (.ireturn, 1) := by decide +kernel
theorem dX9_nameOnce_41 : decode cX9_nameOnce 41 = .ok (.iload_n 2, 1) := by decide +kernel
theorem dX9_nameOnce_42 : decode cX9_nameOnce 42 = .ok (.aload_n 0, 1) := by decide +kernel
theorem dX9_nameOnce_43 : decode cX9_nameOnce 43 = .ok (.getfield 9, 3) := by decide +kernel
theorem dX9_nameOnce_46 : decode cX9_nameOnce 46 = .ok (.iload_n 3, 1) := by decide +kernel
theorem dX9_nameOnce_47 : decode cX9_nameOnce 47 = .ok (.iaload, 1) := by decide +kernel
theorem dX9_nameOnce_48 : decode cX9_nameOnce 48 = .ok (.bipush 97, 2) := by decide +kernel
theorem dX9_nameOnce_50 : decode cX9_nameOnce 50 = .ok (.isub, 1) := by decide +kernel
theorem dX9_nameOnce_51 : decode cX9_nameOnce 51 = .ok (.iconst 1, 1) := by decide +kernel
theorem dX9_nameOnce_52 : decode cX9_nameOnce 52 = .ok (.iadd, 1) := by decide +kernel
theorem dX9_nameOnce_53 : decode cX9_nameOnce 53 = .ok (.iload_n 3, 1) := by decide +kernel
theorem dX9_nameOnce_54 : decode cX9_nameOnce 54 = .ok (.invokestatic 23, 3) := by decide +kernel
theorem dX9_nameOnce_57 : decode cX9_nameOnce 57 = .ok (.ior, 1) := by decide +kernel
theorem dX9_nameOnce_58 : decode cX9_nameOnce 58 = .ok (.istore_n 2, 1) := by decide +kernel
theorem dX9_nameOnce_59 : decode cX9_nameOnce 59 = .ok (.iinc 3 1, 3) := by decide +kernel
theorem dX9_nameOnce_62 : decode cX9_nameOnce 62 = .ok (.goto (-40), 3) := by decide +kernel
theorem dX9_nameOnce_65 : decode cX9_nameOnce 65 = .ok (.iload_n 2, 1) := by decide +kernel
theorem dX9_nameOnce_66 : decode cX9_nameOnce 66 = .ok (.ireturn, 1) := by decide +kernel
theorem dX9_orderOnce_0 : decode cX9_orderOnce 0 = .ok (.aload_n 0, 1) := by decide +kernel
theorem dX9_orderOnce_1 : decode cX9_orderOnce 1 = .ok (.getfield 15, 3) := by decide +kernel
theorem dX9_orderOnce_4 : decode cX9_orderOnce 4 = .ok (.istore_n 2, 1) := by decide +kernel
theorem dX9_orderOnce_5 : decode cX9_orderOnce 5 = .ok (.aload_n 0, 1) := by decide +kernel
theorem dX9_orderOnce_6 : decode cX9_orderOnce 6 = .ok (.iconst 0, 1) := by decide +kernel
theorem dX9_orderOnce_7 : decode cX9_orderOnce 7 = .ok (.putfield 15, 3) := by decide +kernel
theorem dX9_orderOnce_10 : decode cX9_orderOnce 10 = .ok (.iload_n 2, 1) := by decide +kernel
theorem dX9_orderOnce_11 : decode cX9_orderOnce 11 = .ok (.iload_n 1, 1) := by decide +kernel
theorem dX9_orderOnce_12 : decode cX9_orderOnce 12 = .ok (.if_icmp .eq 5, 3) := by decide +kernel
theorem dX9_orderOnce_15 : decode cX9_orderOnce 15 = .ok (.iconst (-1), 1) := by decide +kernel
theorem dX9_orderOnce_16 : decode cX9_orderOnce 16 = .ok (.ireturn, 1) := by decide +kernel
theorem dX9_orderOnce_17 : decode cX9_orderOnce 17 = .ok (.iconst 0, 1) := by decide +kernel
theorem dX9_orderOnce_18 : decode cX9_orderOnce 18 = .ok (.istore_n 3, 1) := by decide +kernel
theorem dX9_orderOnce_19 : decode cX9_orderOnce 19 = .ok (.iconst 0, 1) := by decide +kernel
theorem dX9_orderOnce_20 : decode cX9_orderOnce 20 = .ok (.istore 4, 2) := by decide +kernel
theorem dX9_orderOnce_22 : decode cX9_orderOnce 22 = .ok (.iconst 0, 1) := by decide +kernel
theorem dX9_orderOnce_23 : decode cX9_orderOnce 23 = .ok (.istore 5, 2) := by decide +kernel
theorem dX9_orderOnce_25 : decode cX9_orderOnce 25 = .ok (.iload 5, 2) := by decide +kernel
theorem dX9_orderOnce_27 : decode cX9_orderOnce 27 = .ok (.iload_n 2, 1) := by decide +kernel
theorem dX9_orderOnce_28 : decode cX9_orderOnce 28 = .ok (.if_icmp .ge 61, 3) := by decide +kernel
theorem dX9_orderOnce_31 : decode cX9_orderOnce 31 = .ok (.aload_n 0, 1) := by decide +kernel
theorem dX9_orderOnce_32 : decode cX9_orderOnce 32 = .ok (.getfield 9, 3) := by decide +kernel
theorem dX9_orderOnce_35 : decode cX9_orderOnce 35 = .ok (.iload 5, 2) := by decide +kernel
theorem dX9_orderOnce_37 : decode cX9_orderOnce 37 = .ok (.iaload, 1) := by decide +kernel
theorem dX9_orderOnce_38 : decode cX9_orderOnce 38 = .ok (.bipush 97, 2) := by decide +kernel
theorem dX9_orderOnce_40 : decode cX9_orderOnce 40 = .ok (.isub, 1) := by decide +kernel
theorem dX9_orderOnce_41 : decode cX9_orderOnce 41 = .ok (.istore 6, 2) := by decide +kernel
theorem dX9_orderOnce_43 : decode cX9_orderOnce 43 = .ok (.iload 6, 2) := by decide +kernel
theorem dX9_orderOnce_45 : decode cX9_orderOnce 45 = .ok (.ifCond .lt 20, 3) := by decide +kernel
theorem dX9_orderOnce_48 : decode cX9_orderOnce 48 = .ok (.iload 6, 2) := by decide +kernel
theorem dX9_orderOnce_50 : decode cX9_orderOnce 50 = .ok (.iload_n 1, 1) := by decide +kernel
theorem dX9_orderOnce_51 : decode cX9_orderOnce 51 = .ok (.if_icmp .ge 14, 3) := by decide +kernel
theorem dX9_orderOnce_54 : decode cX9_orderOnce 54 = .ok (.iload 4, 2) := by decide +kernel
theorem dX9_orderOnce_56 : decode cX9_orderOnce 56 = .ok (.iload 6, 2) := by decide +kernel
theorem dX9_orderOnce_58 : decode cX9_orderOnce 58 = .ok (.ishr, 1) := by decide +kernel
theorem dX9_orderOnce_59 : decode cX9_orderOnce 59 = .ok (.iconst 1, 1) := by decide +kernel
theorem dX9_orderOnce_60 : decode cX9_orderOnce 60 = .ok (.iand, 1) := by decide +kernel
theorem dX9_orderOnce_61 : decode cX9_orderOnce 61 = .ok (.iconst 1, 1) := by decide +kernel
theorem dX9_orderOnce_62 : decode cX9_orderOnce 62 = .ok (.if_icmp .ne 5, 3) := by decide +kernel
theorem dX9_orderOnce_65 : decode cX9_orderOnce 65 = .ok (.iconst (-1), 1) := by decide +kernel
theorem dX9_orderOnce_66 : decode cX9_orderOnce 66 = .ok (.ireturn, 1) := by decide +kernel
theorem dX9_orderOnce_67 : decode cX9_orderOnce 67 = .ok (.iload 4, 2) := by decide +kernel
theorem dX9_orderOnce_69 : decode cX9_orderOnce 69 = .ok (.iconst 1, 1) := by decide +kernel
theorem dX9_orderOnce_70 : decode cX9_orderOnce 70 = .ok (.iload 6, 2) := by decide +kernel
theorem dX9_orderOnce_72 : decode cX9_orderOnce 72 = .ok (.ishl, 1) := by decide +kernel
theorem dX9_orderOnce_73 : decode cX9_orderOnce 73 = .ok (.ior, 1) := by decide +kernel
theorem dX9_orderOnce_74 : decode cX9_orderOnce 74 = .ok (.istore 4, 2) := by decide +kernel
theorem dX9_orderOnce_76 : decode cX9_orderOnce 76 = .ok (.iload_n 3, 1) := by decide +kernel
theorem dX9_orderOnce_77 : decode cX9_orderOnce 77 = .ok (.iconst 3, 1) := by decide +kernel
theorem dX9_orderOnce_78 : decode cX9_orderOnce 78 = .ok (.ishl, 1) := by decide +kernel
theorem dX9_orderOnce_79 : decode cX9_orderOnce 79 = .ok (.iload 6, 2) := by decide +kernel
theorem dX9_orderOnce_81 : decode cX9_orderOnce 81 = .ok (.ior, 1) := by decide +kernel
theorem dX9_orderOnce_82 : decode cX9_orderOnce 82 = .ok (.istore_n 3, 1) := by decide +kernel
theorem dX9_orderOnce_83 : decode cX9_orderOnce 83 = .ok (.iinc 5 1, 3) := by decide +kernel
theorem dX9_orderOnce_86 : decode cX9_orderOnce 86 = .ok (.goto (-61), 3) := by decide +kernel
theorem dX9_orderOnce_89 : decode cX9_orderOnce 89 = .ok (.iload_n 3, 1) := by decide +kernel
theorem dX9_orderOnce_90 : decode cX9_orderOnce 90 = .ok (.ireturn, 1) := by decide +kernel
theorem dX9_isSmallLetter_0 : decode cX9_isSmallLetter 0 = .ok (.iload_n 0, 1) := by decide +kernel
theorem dX9_isSmallLetter_1 : decode cX9_isSmallLetter 1 = .ok (.bipush 97, 2) := by decide +kernel
theorem dX9_isSmallLetter_3 : decode cX9_isSmallLetter 3 = .ok (.if_icmp .lt 13, 3) := by decide +kernel
theorem dX9_isSmallLetter_6 : decode cX9_isSmallLetter 6 = .ok (.iload_n 0, 1) := by decide +kernel
theorem dX9_isSmallLetter_7 : decode cX9_isSmallLetter 7 = .ok (.bipush 122, 2) := by decide +kernel
theorem dX9_isSmallLetter_9 : decode cX9_isSmallLetter 9 = .ok (.if_icmp .gt 7, 3) := by decide +kernel
theorem dX9_isSmallLetter_12 : decode cX9_isSmallLetter 12 = .ok (.iconst 1, 1) := by decide +kernel
theorem dX9_isSmallLetter_13 : decode cX9_isSmallLetter 13 = .ok (.goto 4, 3) := by decide +kernel
theorem dX9_isSmallLetter_16 : decode cX9_isSmallLetter 16 = .ok (.iconst 0, 1) := by decide +kernel
theorem dX9_isSmallLetter_17 : decode cX9_isSmallLetter 17 = .ok (.ireturn, 1) := by decide +kernel
theorem dX9_isLetter_0 : decode cX9_isLetter 0 = .ok (.iload_n 0, 1) := by decide +kernel
theorem dX9_isLetter_1 : decode cX9_isLetter 1 = .ok (.invokestatic 19, 3) := by decide +kernel
theorem dX9_isLetter_4 : decode cX9_isLetter 4 = .ok (.ifCond .ne 15, 3) := by decide +kernel
theorem dX9_isLetter_7 : decode cX9_isLetter 7 = .ok (.iload_n 0, 1) := by decide +kernel
theorem dX9_isLetter_8 : decode cX9_isLetter 8 = .ok (.bipush 65, 2) := by decide +kernel
theorem dX9_isLetter_10 : decode cX9_isLetter 10 = .ok (.if_icmp .lt 13, 3) := by decide +kernel
theorem dX9_isLetter_13 : decode cX9_isLetter 13 = .ok (.iload_n 0, 1) := by decide +kernel
theorem dX9_isLetter_14 : decode cX9_isLetter 14 = .ok (.bipush 90, 2) := by decide +kernel
theorem dX9_isLetter_16 : decode cX9_isLetter 16 = .ok (.if_icmp .gt 7, 3) := by decide +kernel
theorem dX9_isLetter_19 : decode cX9_isLetter 19 = .ok (.iconst 1, 1) := by decide +kernel
theorem dX9_isLetter_20 : decode cX9_isLetter 20 = .ok (.goto 4, 3) := by decide +kernel
theorem dX9_isLetter_23 : decode cX9_isLetter 23 = .ok (.iconst 0, 1) := by decide +kernel
theorem dX9_isLetter_24 : decode cX9_isLetter 24 = .ok (.ireturn, 1) := by decide +kernel
theorem dX9_isDigit_0 : decode cX9_isDigit 0 = .ok (.iload_n 0, 1) := by decide +kernel
theorem dX9_isDigit_1 : decode cX9_isDigit 1 = .ok (.bipush 48, 2) := by decide +kernel
theorem dX9_isDigit_3 : decode cX9_isDigit 3 = .ok (.if_icmp .lt 13, 3) := by decide +kernel
theorem dX9_isDigit_6 : decode cX9_isDigit 6 = .ok (.iload_n 0, 1) := by decide +kernel
theorem dX9_isDigit_7 : decode cX9_isDigit 7 = .ok (.bipush 57, 2) := by decide +kernel
theorem dX9_isDigit_9 : decode cX9_isDigit 9 = .ok (.if_icmp .gt 7, 3) := by decide +kernel
theorem dX9_isDigit_12 : decode cX9_isDigit 12 = .ok (.iconst 1, 1) := by decide +kernel
theorem dX9_isDigit_13 : decode cX9_isDigit 13 = .ok (.goto 4, 3) := by decide +kernel
theorem dX9_isDigit_16 : decode cX9_isDigit 16 = .ok (.iconst 0, 1) := by decide +kernel
theorem dX9_isDigit_17 : decode cX9_isDigit 17 = .ok (.ireturn, 1) := by decide +kernel
theorem dX9_isBlank_0 : decode cX9_isBlank 0 = .ok (.iload_n 0, 1) := by decide +kernel
theorem dX9_isBlank_1 : decode cX9_isBlank 1 = .ok (.bipush 32, 2) := by decide +kernel
theorem dX9_isBlank_3 : decode cX9_isBlank 3 = .ok (.if_icmp .eq 9, 3) := by decide +kernel
theorem dX9_isBlank_6 : decode cX9_isBlank 6 = .ok (.iload_n 0, 1) := by decide +kernel
theorem dX9_isBlank_7 : decode cX9_isBlank 7 = .ok (.bipush 10, 2) := by decide +kernel
theorem dX9_isBlank_9 : decode cX9_isBlank 9 = .ok (.if_icmp .ne 7, 3) := by decide +kernel
theorem dX9_isBlank_12 : decode cX9_isBlank 12 = .ok (.iconst 1, 1) := by decide +kernel
theorem dX9_isBlank_13 : decode cX9_isBlank 13 = .ok (.goto 4, 3) := by decide +kernel
theorem dX9_isBlank_16 : decode cX9_isBlank 16 = .ok (.iconst 0, 1) := by decide +kernel
theorem dX9_isBlank_17 : decode cX9_isBlank 17 = .ok (.ireturn, 1) := by decide +kernel
theorem dX10_init_0 : decode cX10_init 0 = .ok (.aload_n 0, 1) := by decide +kernel
theorem dX10_init_1 : decode cX10_init 1 = .ok (.invokespecial 3, 3) := by decide +kernel
theorem dX10_init_4 : decode cX10_init 4 = .ok (.aload_n 0, 1) := by decide +kernel
theorem dX10_init_5 : decode cX10_init 5 = .ok (.bipush 20, 2) := by decide +kernel
theorem dX10_init_7 : decode cX10_init 7 = .ok (.newarray .int, 2) := by decide +kernel
theorem dX10_init_9 : decode cX10_init 9 = .ok (.putfield 9, 3) := by decide +kernel
theorem dX10_init_12 : decode cX10_init 12 = .ok (.aload_n 0, 1) := by decide +kernel
theorem dX10_init_13 : decode cX10_init 13 = .ok (.sipush 800, 3) := by decide +kernel
theorem dX10_init_16 : decode cX10_init 16 = .ok (.newarray .int, 2) := by decide +kernel
theorem dX10_init_18 : decode cX10_init 18 = .ok (.putfield 15, 3) := by decide +kernel
theorem dX10_init_21 : decode cX10_init 21 = .ok (.aload_n 0, 1) := by decide +kernel
theorem dX10_init_22 : decode cX10_init 22 = .ok (.iconst (-1), 1) := by decide +kernel
theorem dX10_init_23 : decode cX10_init 23 = .ok (.putfield 18, 3) := by decide +kernel
theorem dX10_init_26 : decode cX10_init 26 = .ok (.aload_n 0, 1) := by decide +kernel
theorem dX10_init_27 : decode cX10_init 27 = .ok (.iconst 0, 1) := by decide +kernel
theorem dX10_init_28 : decode cX10_init 28 = .ok (.putfield 22, 3) := by decide +kernel
theorem dX10_init_31 : decode cX10_init 31 = .ok (.aload_n 0, 1) := by decide +kernel
theorem dX10_init_32 : decode cX10_init 32 = .ok (.iconst 0, 1) := by decide +kernel
theorem dX10_init_33 : decode cX10_init 33 = .ok (.putfield 25, 3) := by decide +kernel
theorem dX10_init_36 : decode cX10_init 36 = .ok (.return_, 1) := by decide +kernel
theorem dX10_goThrough_0 : decode cX10_goThrough 0 = .ok (.aload_n 1, 1) := by decide +kernel
theorem dX10_goThrough_1 : decode cX10_goThrough 1 = .ok (.getfield 28, 3) := by decide +kernel
theorem dX10_goThrough_4 : decode cX10_goThrough 4 = .ok (.getfield 34, 3) := by decide +kernel
theorem dX10_goThrough_7 : decode cX10_goThrough 7 = .ok (.istore 4, 2) := by decide +kernel
theorem dX10_goThrough_9 : decode cX10_goThrough 9 = .ok (.aload_n 1, 1) := by decide +kernel
theorem dX10_goThrough_10 : decode cX10_goThrough 10 = .ok (.getfield 28, 3) := by decide +kernel
theorem dX10_goThrough_13 : decode cX10_goThrough 13 = .ok (.getfield 39, 3) := by decide +kernel
theorem dX10_goThrough_16 : decode cX10_goThrough 16 = .ok (.iconst 0, 1) := by decide +kernel
theorem dX10_goThrough_17 : decode cX10_goThrough 17 = .ok (.aload_n 0, 1) := by decide +kernel
theorem dX10_goThrough_18 : decode cX10_goThrough 18 = .ok (.getfield 9, 3) := by decide +kernel
theorem dX10_goThrough_21 : decode cX10_goThrough 21 = .ok (.iconst 0, 1) := by decide +kernel
theorem dX10_goThrough_22 : decode cX10_goThrough 22 = .ok (.iload 4, 2) := by decide +kernel
theorem dX10_goThrough_24 : decode cX10_goThrough 24 = .ok (.invokestatic 40, 3) := by decide +kernel
theorem dX10_goThrough_27 : decode cX10_goThrough 27 = .ok (.aload_n 2, 1) := by decide +kernel
theorem dX10_goThrough_28 : decode cX10_goThrough 28 = .ok (.aload_n 1, 1) := by decide +kernel
theorem dX10_goThrough_29 : decode cX10_goThrough 29 = .ok (.invokevirtual 46, 3) := by decide +kernel
theorem dX10_goThrough_32 : decode cX10_goThrough 32 = .ok (.aload_n 2, 1) := by decide +kernel
theorem dX10_goThrough_33 : decode cX10_goThrough 33 = .ok (.aload_n 1, 1) := by decide +kernel
theorem dX10_goThrough_34 : decode cX10_goThrough 34 = .ok (.aload_n 1, 1) := by decide +kernel
theorem dX10_goThrough_35 : decode cX10_goThrough 35 = .ok (.getfield 52, 3) := by decide +kernel
theorem dX10_goThrough_38 : decode cX10_goThrough 38 = .ok (.invokevirtual 55, 3) := by decide +kernel
theorem dX10_goThrough_41 : decode cX10_goThrough 41 = .ok (.aload_n 0, 1) := by decide +kernel
theorem dX10_goThrough_42 : decode cX10_goThrough 42 = .ok (.iconst (-1), 1) := by decide +kernel
theorem dX10_goThrough_43 : decode cX10_goThrough 43 = .ok (.putfield 18, 3) := by decide +kernel
theorem dX10_goThrough_46 : decode cX10_goThrough 46 = .ok (.aload_n 0, 1) := by decide +kernel
theorem dX10_goThrough_47 : decode cX10_goThrough 47 = .ok (.iconst 0, 1) := by decide +kernel
theorem dX10_goThrough_48 : decode cX10_goThrough 48 = .ok (.putfield 22, 3) := by decide +kernel
theorem dX10_goThrough_51 : decode cX10_goThrough 51 = .ok (.aload_n 0, 1) := by decide +kernel
theorem dX10_goThrough_52 : decode cX10_goThrough 52 = .ok (.iconst 0, 1) := by decide +kernel
theorem dX10_goThrough_53 : decode cX10_goThrough 53 = .ok (.putfield 25, 3) := by decide +kernel
theorem dX10_goThrough_56 : decode cX10_goThrough 56 = .ok (.iconst 0, 1) := by decide +kernel
theorem dX10_goThrough_57 : decode cX10_goThrough 57 = .ok (.istore 5, 2) := by decide +kernel
theorem dX10_goThrough_59 : decode cX10_goThrough 59 = .ok (.iload 5, 2) := by decide +kernel
theorem dX10_goThrough_61 : decode cX10_goThrough 61 = .ok (.bipush 40, 2) := by decide +kernel
theorem dX10_goThrough_63 : decode cX10_goThrough 63 = .ok (.if_icmp .ge 77, 3) := by decide +kernel
theorem dX10_goThrough_66 : decode cX10_goThrough 66 = .ok (.aload_n 0, 1) := by decide +kernel
theorem dX10_goThrough_67 : decode cX10_goThrough 67 = .ok (.getfield 9, 3) := by decide +kernel
theorem dX10_goThrough_70 : decode cX10_goThrough 70 = .ok (.iconst 0, 1) := by decide +kernel
theorem dX10_goThrough_71 : decode cX10_goThrough 71 = .ok (.aload_n 0, 1) := by decide +kernel
theorem dX10_goThrough_72 : decode cX10_goThrough 72 = .ok (.getfield 15, 3) := by decide +kernel
theorem dX10_goThrough_75 : decode cX10_goThrough 75 = .ok (.iload 5, 2) := by decide +kernel
theorem dX10_goThrough_77 : decode cX10_goThrough 77 = .ok (.bipush 20, 2) := by decide +kernel
theorem dX10_goThrough_79 : decode cX10_goThrough 79 = .ok (.imul, 1) := by decide +kernel
theorem dX10_goThrough_80 : decode cX10_goThrough 80 = .ok (.iload 4, 2) := by decide +kernel
theorem dX10_goThrough_82 : decode cX10_goThrough 82 = .ok (.invokestatic 40, 3) := by decide +kernel
theorem dX10_goThrough_85 : decode cX10_goThrough 85 = .ok (.aload_n 0, 1) := by decide +kernel
theorem dX10_goThrough_86 : decode cX10_goThrough 86 = .ok (.getfield 25, 3) := by decide +kernel
theorem dX10_goThrough_89 : decode cX10_goThrough 89 = .ok (.istore 6, 2) := by decide +kernel
theorem dX10_goThrough_91 : decode cX10_goThrough 91 = .ok (.aload_n 0, 1) := by decide +kernel
theorem dX10_goThrough_92 : decode cX10_goThrough 92 = .ok (.aload_n 1, 1) := by decide +kernel
theorem dX10_goThrough_93 : decode cX10_goThrough 93 = .ok (.aload_n 2, 1) := by decide +kernel
theorem dX10_goThrough_94 : decode cX10_goThrough 94 = .ok (.aload_n 3, 1) := by decide +kernel
theorem dX10_goThrough_95 : decode cX10_goThrough 95 = .ok (.invokevirtual 59, 3) := by decide +kernel
theorem dX10_goThrough_98 : decode cX10_goThrough 98 = .ok (.aload_n 0, 1) := by decide +kernel
theorem dX10_goThrough_99 : decode cX10_goThrough 99 = .ok (.getfield 25, 3) := by decide +kernel
theorem dX10_goThrough_102 : decode cX10_goThrough 102 = .ok (.iload 6, 2) := by decide +kernel
theorem dX10_goThrough_104 : decode cX10_goThrough 104 = .ok (.if_icmp .ne 10, 3) := by decide +kernel
theorem dX10_goThrough_107 : decode cX10_goThrough 107 = .ok (.aload_n 0, 1) := by decide +kernel
theorem dX10_goThrough_108 : decode cX10_goThrough 108 = .ok (.iload 5, 2) := by decide +kernel
theorem dX10_goThrough_110 : decode cX10_goThrough 110 = .ok (.putfield 18, 3) := by decide +kernel
theorem dX10_goThrough_113 : decode cX10_goThrough 113 = .ok (.return_, 1) := by decide +kernel
theorem dX10_goThrough_114 : decode cX10_goThrough 114 = .ok (.aload_n 0, 1) := by decide +kernel
theorem dX10_goThrough_115 : decode cX10_goThrough 115 = .ok (.aload_n 0, 1) := by decide +kernel
theorem dX10_goThrough_116 : decode cX10_goThrough 116 = .ok (.iload 5, 2) := by decide +kernel
theorem dX10_goThrough_118 : decode cX10_goThrough 118 = .ok (.iload 4, 2) := by decide +kernel
theorem dX10_goThrough_120 : decode cX10_goThrough 120 = .ok (.invokevirtual 63, 3) := by decide +kernel
theorem dX10_goThrough_123 : decode cX10_goThrough 123 = .ok (.putfield 22, 3) := by decide +kernel
theorem dX10_goThrough_126 : decode cX10_goThrough 126 = .ok (.aload_n 0, 1) := by decide +kernel
theorem dX10_goThrough_127 : decode cX10_goThrough 127 = .ok (.getfield 22, 3) := by decide +kernel
theorem dX10_goThrough_130 : decode cX10_goThrough 130 = .ok (.ifCond .le 4, 3) := by decide +kernel
theorem dX10_goThrough_133 : decode cX10_goThrough 133 = .ok (.return_, 1) := by decide +kernel
theorem dX10_goThrough_134 : decode cX10_goThrough 134 = .ok (.iinc 5 1, 3) := by decide +kernel
theorem dX10_goThrough_137 : decode cX10_goThrough 137 = .ok (.goto (-78), 3) := by decide +kernel
theorem dX10_goThrough_140 : decode cX10_goThrough 140 = .ok (.return_, 1) := by decide +kernel
theorem dX10_goRound_0 : decode cX10_goRound 0 = .ok (.iconst 0, 1) := by decide +kernel
theorem dX10_goRound_1 : decode cX10_goRound 1 = .ok (.istore 4, 2) := by decide +kernel
theorem dX10_goRound_3 : decode cX10_goRound 3 = .ok (.iload 4, 2) := by decide +kernel
theorem dX10_goRound_5 : decode cX10_goRound 5 = .ok (.aload_n 1, 1) := by decide +kernel
theorem dX10_goRound_6 : decode cX10_goRound 6 = .ok (.getfield 28, 3) := by decide +kernel
theorem dX10_goRound_9 : decode cX10_goRound 9 = .ok (.getfield 34, 3) := by decide +kernel
theorem dX10_goRound_12 : decode cX10_goRound 12 = .ok (.if_icmp .ge 68, 3) := by decide +kernel
theorem dX10_goRound_15 : decode cX10_goRound 15 = .ok (.aload_n 0, 1) := by decide +kernel
theorem dX10_goRound_16 : decode cX10_goRound 16 = .ok (.aload_n 1, 1) := by decide +kernel
theorem dX10_goRound_17 : decode cX10_goRound 17 = .ok (.aload_n 2, 1) := by decide +kernel
theorem dX10_goRound_18 : decode cX10_goRound 18 = .ok (.aload_n 3, 1) := by decide +kernel
theorem dX10_goRound_19 : decode cX10_goRound 19 = .ok (.iload 4, 2) := by decide +kernel
theorem dX10_goRound_21 : decode cX10_goRound 21 = .ok (.invokevirtual 67, 3) := by decide +kernel
theorem dX10_goRound_24 : decode cX10_goRound 24 = .ok (.istore 5, 2) := by decide +kernel
theorem dX10_goRound_26 : decode cX10_goRound 26 = .ok (.iload 5, 2) := by decide +kernel
theorem dX10_goRound_28 : decode cX10_goRound 28 = .ok (.iconst (-1), 1) := by decide +kernel
theorem dX10_goRound_29 : decode cX10_goRound 29 = .ok (.if_icmp .eq 45, 3) := by decide +kernel
theorem dX10_goRound_32 : decode cX10_goRound 32 = .ok (.aload_n 0, 1) := by decide +kernel
theorem dX10_goRound_33 : decode cX10_goRound 33 = .ok (.getfield 9, 3) := by decide +kernel
theorem dX10_goRound_36 : decode cX10_goRound 36 = .ok (.iload 4, 2) := by decide +kernel
theorem dX10_goRound_38 : decode cX10_goRound 38 = .ok (.aload_n 1, 1) := by decide +kernel
theorem dX10_goRound_39 : decode cX10_goRound 39 = .ok (.getfield 71, 3) := by decide +kernel
theorem dX10_goRound_42 : decode cX10_goRound 42 = .ok (.iload 5, 2) := by decide +kernel
theorem dX10_goRound_44 : decode cX10_goRound 44 = .ok (.iaload, 1) := by decide +kernel
theorem dX10_goRound_45 : decode cX10_goRound 45 = .ok (.iastore, 1) := by decide +kernel
theorem dX10_goRound_46 : decode cX10_goRound 46 = .ok (.aload_n 2, 1) := by decide +kernel
theorem dX10_goRound_47 : decode cX10_goRound 47 = .ok (.getfield 74, 3) := by decide +kernel
theorem dX10_goRound_50 : decode cX10_goRound 50 = .ok (.iload 4, 2) := by decide +kernel
theorem dX10_goRound_52 : decode cX10_goRound 52 = .ok (.aload_n 2, 1) := by decide +kernel
theorem dX10_goRound_53 : decode cX10_goRound 53 = .ok (.aload_n 0, 1) := by decide +kernel
theorem dX10_goRound_54 : decode cX10_goRound 54 = .ok (.getfield 9, 3) := by decide +kernel
theorem dX10_goRound_57 : decode cX10_goRound 57 = .ok (.iload 4, 2) := by decide +kernel
theorem dX10_goRound_59 : decode cX10_goRound 59 = .ok (.iaload, 1) := by decide +kernel
theorem dX10_goRound_60 : decode cX10_goRound 60 = .ok (.invokevirtual 77, 3) := by decide +kernel
theorem dX10_goRound_63 : decode cX10_goRound 63 = .ok (.iastore, 1) := by decide +kernel
theorem dX10_goRound_64 : decode cX10_goRound 64 = .ok (.aload_n 0, 1) := by decide +kernel
theorem dX10_goRound_65 : decode cX10_goRound 65 = .ok (.dup, 1) := by decide +kernel
theorem dX10_goRound_66 : decode cX10_goRound 66 = .ok (.getfield 25, 3) := by decide +kernel
theorem dX10_goRound_69 : decode cX10_goRound 69 = .ok (.iconst 1, 1) := by decide +kernel
theorem dX10_goRound_70 : decode cX10_goRound 70 = .ok (.iadd, 1) := by decide +kernel
theorem dX10_goRound_71 : decode cX10_goRound 71 = .ok (.putfield 25, 3) := by decide +kernel
theorem dX10_goRound_74 : decode cX10_goRound 74 = .ok (.iinc 4 1, 3) := by decide +kernel
theorem dX10_goRound_77 : decode cX10_goRound 77 = .ok (.goto (-74), 3) := by decide +kernel
theorem dX10_goRound_80 : decode cX10_goRound 80 = .ok (.return_, 1) := by decide +kernel
theorem dX10_bestFor_0 : decode cX10_bestFor 0 = .ok (.aload_n 2, 1) := by decide +kernel
theorem dX10_bestFor_1 : decode cX10_bestFor 1 = .ok (.aload_n 1, 1) := by decide +kernel
theorem dX10_bestFor_2 : decode cX10_bestFor 2 = .ok (.iload 4, 2) := by decide +kernel
theorem dX10_bestFor_4 : decode cX10_bestFor 4 = .ok (.aload_n 0, 1) := by decide +kernel
theorem dX10_bestFor_5 : decode cX10_bestFor 5 = .ok (.getfield 9, 3) := by decide +kernel
theorem dX10_bestFor_8 : decode cX10_bestFor 8 = .ok (.iload 4, 2) := by decide +kernel
theorem dX10_bestFor_10 : decode cX10_bestFor 10 = .ok (.iaload, 1) := by decide +kernel
theorem dX10_bestFor_11 : decode cX10_bestFor 11 = .ok (.invokevirtual 81, 3) := by decide +kernel
theorem dX10_bestFor_14 : decode cX10_bestFor 14 = .ok (.istore 5, 2) := by decide +kernel
theorem dX10_bestFor_16 : decode cX10_bestFor 16 = .ok (.iconst 0, 1) := by decide +kernel
theorem dX10_bestFor_17 : decode cX10_bestFor 17 = .ok (.istore 6, 2) := by decide +kernel
theorem dX10_bestFor_19 : decode cX10_bestFor 19 = .ok (.iconst (-1), 1) := by decide +kernel
theorem dX10_bestFor_20 : decode cX10_bestFor 20 = .ok (.istore 7, 2) := by decide +kernel
theorem dX10_bestFor_22 : decode cX10_bestFor 22 = .ok (.iconst 0, 1) := by decide +kernel
theorem dX10_bestFor_23 : decode cX10_bestFor 23 = .ok (.istore 8, 2) := by decide +kernel
theorem dX10_bestFor_25 : decode cX10_bestFor 25 = .ok (.iload 8, 2) := by decide +kernel
theorem dX10_bestFor_27 : decode cX10_bestFor 27 = .ok (.aload_n 1, 1) := by decide +kernel
theorem dX10_bestFor_28 : decode cX10_bestFor 28 = .ok (.getfield 85, 3) := by decide +kernel
theorem dX10_bestFor_31 : decode cX10_bestFor 31 = .ok (.if_icmp .ge 104, 3) := by decide +kernel
theorem dX10_bestFor_34 : decode cX10_bestFor 34 = .ok (.aload_n 1, 1) := by decide +kernel
theorem dX10_bestFor_35 : decode cX10_bestFor 35 = .ok (.getfield 71, 3) := by decide +kernel
theorem dX10_bestFor_38 : decode cX10_bestFor 38 = .ok (.iload 8, 2) := by decide +kernel
theorem dX10_bestFor_40 : decode cX10_bestFor 40 = .ok (.iaload, 1) := by decide +kernel
theorem dX10_bestFor_41 : decode cX10_bestFor 41 = .ok (.istore 9, 2) := by decide +kernel
theorem dX10_bestFor_43 : decode cX10_bestFor 43 = .ok (.aload_n 1, 1) := by decide +kernel
theorem dX10_bestFor_44 : decode cX10_bestFor 44 = .ok (.getfield 88, 3) := by decide +kernel
theorem dX10_bestFor_47 : decode cX10_bestFor 47 = .ok (.iconst 5, 1) := by decide +kernel
theorem dX10_bestFor_48 : decode cX10_bestFor 48 = .ok (.iaload, 1) := by decide +kernel
theorem dX10_bestFor_49 : decode cX10_bestFor 49 = .ok (.aload_n 2, 1) := by decide +kernel
theorem dX10_bestFor_50 : decode cX10_bestFor 50 = .ok (.aload_n 1, 1) := by decide +kernel
theorem dX10_bestFor_51 : decode cX10_bestFor 51 = .ok (.iload 4, 2) := by decide +kernel
theorem dX10_bestFor_53 : decode cX10_bestFor 53 = .ok (.iload 9, 2) := by decide +kernel
theorem dX10_bestFor_55 : decode cX10_bestFor 55 = .ok (.invokevirtual 81, 3) := by decide +kernel
theorem dX10_bestFor_58 : decode cX10_bestFor 58 = .ok (.iload 5, 2) := by decide +kernel
theorem dX10_bestFor_60 : decode cX10_bestFor 60 = .ok (.isub, 1) := by decide +kernel
theorem dX10_bestFor_61 : decode cX10_bestFor 61 = .ok (.imul, 1) := by decide +kernel
theorem dX10_bestFor_62 : decode cX10_bestFor 62 = .ok (.istore 10, 2) := by decide +kernel
theorem dX10_bestFor_64 : decode cX10_bestFor 64 = .ok (.iload 10, 2) := by decide +kernel
theorem dX10_bestFor_66 : decode cX10_bestFor 66 = .ok (.iload 6, 2) := by decide +kernel
theorem dX10_bestFor_68 : decode cX10_bestFor 68 = .ok (.if_icmp .le 25, 3) := by decide +kernel
theorem dX10_bestFor_71 : decode cX10_bestFor 71 = .ok (.iload 10, 2) := by decide +kernel
theorem dX10_bestFor_73 : decode cX10_bestFor 73 = .ok (.aload_n 3, 1) := by decide +kernel
theorem dX10_bestFor_74 : decode cX10_bestFor 74 = .ok (.aload_n 1, 1) := by decide +kernel
theorem dX10_bestFor_75 : decode cX10_bestFor 75 = .ok (.getfield 88, 3) := by decide +kernel
theorem dX10_bestFor_78 : decode cX10_bestFor 78 = .ok (.aload_n 0, 1) := by decide +kernel
theorem dX10_bestFor_79 : decode cX10_bestFor 79 = .ok (.getfield 9, 3) := by decide +kernel
theorem dX10_bestFor_82 : decode cX10_bestFor 82 = .ok (.iload 4, 2) := by decide +kernel
theorem dX10_bestFor_84 : decode cX10_bestFor 84 = .ok (.iaload, 1) := by decide +kernel
theorem dX10_bestFor_85 : decode cX10_bestFor 85 = .ok (.iload 9, 2) := by decide +kernel
theorem dX10_bestFor_87 : decode cX10_bestFor 87 = .ok (.invokevirtual 91, 3) := by decide +kernel
theorem dX10_bestFor_90 : decode cX10_bestFor 90 = .ok (.isub, 1) := by decide +kernel
theorem dX10_bestFor_91 : decode cX10_bestFor 91 = .ok (.istore 10, 2) := by decide +kernel
theorem dX10_bestFor_93 : decode cX10_bestFor 93 = .ok (.iload 10, 2) := by decide +kernel
theorem dX10_bestFor_95 : decode cX10_bestFor 95 = .ok (.iload 6, 2) := by decide +kernel
theorem dX10_bestFor_97 : decode cX10_bestFor 97 = .ok (.if_icmp .le 32, 3) := by decide +kernel
theorem dX10_bestFor_100 : decode cX10_bestFor 100 = .ok (.aload_n 3, 1) := by decide +kernel
theorem dX10_bestFor_101 : decode cX10_bestFor 101 = .ok (.aload_n 1, 1) := by decide +kernel
theorem dX10_bestFor_102 : decode cX10_bestFor 102 = .ok (.iload 4, 2) := by decide +kernel
theorem dX10_bestFor_104 : decode cX10_bestFor 104 = .ok (.aload_n 0, 1) := by decide +kernel
theorem dX10_bestFor_105 : decode cX10_bestFor 105 = .ok (.getfield 9, 3) := by decide +kernel
theorem dX10_bestFor_108 : decode cX10_bestFor 108 = .ok (.iload 4, 2) := by decide +kernel
theorem dX10_bestFor_110 : decode cX10_bestFor 110 = .ok (.iaload, 1) := by decide +kernel
theorem dX10_bestFor_111 : decode cX10_bestFor 111 = .ok (.iload 9, 2) := by decide +kernel
theorem dX10_bestFor_113 : decode cX10_bestFor 113 = .ok (.iload 5, 2) := by decide +kernel
theorem dX10_bestFor_115 : decode cX10_bestFor 115 = .ok (.invokevirtual 97, 3) := by decide +kernel
theorem dX10_bestFor_118 : decode cX10_bestFor 118 = .ok (.ifCond .eq 11, 3) := by decide +kernel
theorem dX10_bestFor_121 : decode cX10_bestFor 121 = .ok (.iload 10, 2) := by decide +kernel
theorem dX10_bestFor_123 : decode cX10_bestFor 123 = .ok (.istore 6, 2) := by decide +kernel
theorem dX10_bestFor_125 : decode cX10_bestFor 125 = .ok (.iload 8, 2) := by decide +kernel
theorem dX10_bestFor_127 : decode cX10_bestFor 127 = .ok (.istore 7, 2) := by decide +kernel
theorem dX10_bestFor_129 : decode cX10_bestFor 129 = .ok (.iinc 8 1, 3) := by decide +kernel
theorem dX10_bestFor_132 : decode cX10_bestFor 132 = .ok (.goto (-107), 3) := by decide +kernel
theorem dX10_bestFor_135 : decode cX10_bestFor 135 = .ok (.iload 7, 2) := by decide +kernel
theorem dX10_bestFor_137 : decode cX10_bestFor 137 = .ok (.ireturn, 1) := by decide +kernel
theorem dX10_roundsSinceSame_0 : decode cX10_roundsSinceSame 0 = .ok (.iload_n 1, 1) := by decide +kernel
theorem dX10_roundsSinceSame_1 : decode cX10_roundsSinceSame 1 = .ok (.istore_n 3, 1) := by decide +kernel
theorem dX10_roundsSinceSame_2 : decode cX10_roundsSinceSame 2 = .ok (.iload_n 3, 1) := by decide +kernel
theorem dX10_roundsSinceSame_3 : decode cX10_roundsSinceSame 3 = .ok (.ifCond .lt 72, 3) := by decide +kernel
theorem dX10_roundsSinceSame_6 : decode cX10_roundsSinceSame 6 = .ok (.iconst 1, 1) := by decide +kernel
theorem dX10_roundsSinceSame_7 : decode cX10_roundsSinceSame 7 = .ok (.istore 4, 2) := by decide +kernel
theorem dX10_roundsSinceSame_9 : decode cX10_roundsSinceSame 9 = .ok (.iconst 0, 1) := by decide +kernel
theorem dX10_roundsSinceSame_10 : decode cX10_roundsSinceSame 10 = .ok (.istore 5, 2) := by decide +kernel
theorem dX10_roundsSinceSame_12 : decode cX10_roundsSinceSame 12 = .ok (.iload 5, 2) := by decide +kernel
theorem dX10_roundsSinceSame_14 : decode cX10_roundsSinceSame 14 = .ok (.iload_n 2, 1) := by decide +kernel
theorem dX10_roundsSinceSame_15 : decode cX10_roundsSinceSame 15 = .ok (.if_icmp .ge 43, 3) := by decide +kernel
theorem dX10_roundsSinceSame_18 : decode cX10_roundsSinceSame 18 = .ok (.iload 4, 2) := by decide +kernel
theorem dX10_roundsSinceSame_20 : decode cX10_roundsSinceSame 20 = .ok (.ifCond .eq 38, 3) := by decide +kernel
theorem dX10_roundsSinceSame_23 : decode cX10_roundsSinceSame 23 = .ok (.aload_n 0, 1) := by decide +kernel
theorem dX10_roundsSinceSame_24 : decode cX10_roundsSinceSame 24 = .ok (.getfield 15, 3) := by decide +kernel
theorem dX10_roundsSinceSame_27 : decode cX10_roundsSinceSame 27 = .ok (.iload_n 3, 1) := by decide +kernel
theorem dX10_roundsSinceSame_28 : decode cX10_roundsSinceSame 28 = .ok (.bipush 20, 2) := by decide +kernel
theorem dX10_roundsSinceSame_30 : decode cX10_roundsSinceSame 30 = .ok (.imul, 1) := by decide +kernel
theorem dX10_roundsSinceSame_31 : decode cX10_roundsSinceSame 31 = .ok (.iload 5, 2) := by decide +kernel
theorem dX10_roundsSinceSame_33 : decode cX10_roundsSinceSame 33 = .ok (.iadd, 1) := by decide +kernel
theorem dX10_roundsSinceSame_34 : decode cX10_roundsSinceSame 34 = .ok (.iaload, 1) := by decide +kernel
theorem dX10_roundsSinceSame_35 : decode cX10_roundsSinceSame 35 = .ok (.aload_n 0, 1) := by decide +kernel
theorem dX10_roundsSinceSame_36 : decode cX10_roundsSinceSame 36 = .ok (.getfield 9, 3) := by decide +kernel
theorem dX10_roundsSinceSame_39 : decode cX10_roundsSinceSame 39 = .ok (.iload 5, 2) := by decide +kernel
theorem dX10_roundsSinceSame_41 : decode cX10_roundsSinceSame 41 = .ok (.iaload, 1) := by decide +kernel
theorem dX10_roundsSinceSame_42 : decode cX10_roundsSinceSame 42 = .ok (.if_icmp .ne 7, 3) := by decide +kernel
theorem dX10_roundsSinceSame_45 : decode cX10_roundsSinceSame 45 = .ok (.iconst 1, 1) := by decide +kernel
theorem dX10_roundsSinceSame_46 : decode cX10_roundsSinceSame 46 = .ok (.goto 4, 3) := by decide +kernel
theorem dX10_roundsSinceSame_49 : decode cX10_roundsSinceSame 49 = .ok (.iconst 0, 1) := by decide +kernel
theorem dX10_roundsSinceSame_50 : decode cX10_roundsSinceSame 50 = .ok (.istore 4, 2) := by decide +kernel
theorem dX10_roundsSinceSame_52 : decode cX10_roundsSinceSame 52 = .ok (.iinc 5 1, 3) := by decide +kernel
theorem dX10_roundsSinceSame_55 : decode cX10_roundsSinceSame 55 = .ok (.goto (-43), 3) := by decide +kernel
theorem dX10_roundsSinceSame_58 : decode cX10_roundsSinceSame 58 = .ok (.iload 4, 2) := by decide +kernel
theorem dX10_roundsSinceSame_60 : decode cX10_roundsSinceSame 60 = .ok (.ifCond .eq 9, 3) := by decide +kernel
theorem dX10_roundsSinceSame_63 : decode cX10_roundsSinceSame 63 = .ok (.iload_n 1, 1) := by decide +kernel
theorem dX10_roundsSinceSame_64 : decode cX10_roundsSinceSame 64 = .ok (.iconst 1, 1) := by decide +kernel
theorem dX10_roundsSinceSame_65 : decode cX10_roundsSinceSame 65 = .ok (.iadd, 1) := by decide +kernel
theorem dX10_roundsSinceSame_66 : decode cX10_roundsSinceSame 66 = .ok (.iload_n 3, 1) := by decide +kernel
theorem dX10_roundsSinceSame_67 : decode cX10_roundsSinceSame 67 = .ok (.isub, 1) := by decide +kernel
theorem dX10_roundsSinceSame_68 : decode cX10_roundsSinceSame 68 = .ok (.ireturn, 1) := by decide +kernel
theorem dX10_roundsSinceSame_69 : decode cX10_roundsSinceSame 69 = .ok (.iinc 3 (-1), 3) := by decide +kernel
theorem dX10_roundsSinceSame_72 : decode cX10_roundsSinceSame 72 = .ok (.goto (-70), 3) := by decide +kernel
theorem dX10_roundsSinceSame_75 : decode cX10_roundsSinceSame 75 = .ok (.iconst 0, 1) := by decide +kernel
theorem dX10_roundsSinceSame_76 : decode cX10_roundsSinceSame 76 = .ok (.ireturn, 1) := by decide +kernel
theorem dX11_init_0 : decode cX11_init 0 = .ok (.aload_n 0, 1) := by decide +kernel
theorem dX11_init_1 : decode cX11_init 1 = .ok (.invokespecial 3, 3) := by decide +kernel
theorem dX11_init_4 : decode cX11_init 4 = .ok (.aload_n 0, 1) := by decide +kernel
theorem dX11_init_5 : decode cX11_init 5 = .ok (.new 9, 3) := by decide +kernel
theorem dX11_init_8 : decode cX11_init 8 = .ok (.dup, 1) := by decide +kernel
theorem dX11_init_9 : decode cX11_init 9 = .ok (.invokespecial 11, 3) := by decide +kernel
theorem dX11_init_12 : decode cX11_init 12 = .ok (.putfield 12, 3) := by decide +kernel
theorem dX11_init_15 : decode cX11_init 15 = .ok (.aload_n 0, 1) := by decide +kernel
theorem dX11_init_16 : decode cX11_init 16 = .ok (.new 16, 3) := by decide +kernel
theorem dX11_init_19 : decode cX11_init 19 = .ok (.dup, 1) := by decide +kernel
theorem dX11_init_20 : decode cX11_init 20 = .ok (.invokespecial 18, 3) := by decide +kernel
theorem dX11_init_23 : decode cX11_init 23 = .ok (.putfield 19, 3) := by decide +kernel
theorem dX11_init_26 : decode cX11_init 26 = .ok (.aload_n 0, 1) := by decide +kernel
theorem dX11_init_27 : decode cX11_init 27 = .ok (.new 16, 3) := by decide +kernel
theorem dX11_init_30 : decode cX11_init 30 = .ok (.dup, 1) := by decide +kernel
theorem dX11_init_31 : decode cX11_init 31 = .ok (.invokespecial 18, 3) := by decide +kernel
theorem dX11_init_34 : decode cX11_init 34 = .ok (.putfield 23, 3) := by decide +kernel
theorem dX11_init_37 : decode cX11_init 37 = .ok (.aload_n 0, 1) := by decide +kernel
theorem dX11_init_38 : decode cX11_init 38 = .ok (.iconst 0, 1) := by decide +kernel
theorem dX11_init_39 : decode cX11_init 39 = .ok (.putfield 26, 3) := by decide +kernel
theorem dX11_init_42 : decode cX11_init 42 = .ok (.aload_n 0, 1) := by decide +kernel
theorem dX11_init_43 : decode cX11_init 43 = .ok (.new 30, 3) := by decide +kernel
theorem dX11_init_46 : decode cX11_init 46 = .ok (.dup, 1) := by decide +kernel
theorem dX11_init_47 : decode cX11_init 47 = .ok (.invokespecial 32, 3) := by decide +kernel
theorem dX11_init_50 : decode cX11_init 50 = .ok (.putfield 33, 3) := by decide +kernel
theorem dX11_init_53 : decode cX11_init 53 = .ok (.aload_n 0, 1) := by decide +kernel
theorem dX11_init_54 : decode cX11_init 54 = .ok (.new 37, 3) := by decide +kernel
theorem dX11_init_57 : decode cX11_init 57 = .ok (.dup, 1) := by decide +kernel
theorem dX11_init_58 : decode cX11_init 58 = .ok (.invokespecial 39, 3) := by decide +kernel
theorem dX11_init_61 : decode cX11_init 61 = .ok (.putfield 40, 3) := by decide +kernel
theorem dX11_init_64 : decode cX11_init 64 = .ok (.aload_n 0, 1) := by decide +kernel
theorem dX11_init_65 : decode cX11_init 65 = .ok (.new 44, 3) := by decide +kernel
theorem dX11_init_68 : decode cX11_init 68 = .ok (.dup, 1) := by decide +kernel
theorem dX11_init_69 : decode cX11_init 69 = .ok (.invokespecial 46, 3) := by decide +kernel
theorem dX11_init_72 : decode cX11_init 72 = .ok (.putfield 47, 3) := by decide +kernel
theorem dX11_init_75 : decode cX11_init 75 = .ok (.aload_n 0, 1) := by decide +kernel
theorem dX11_init_76 : decode cX11_init 76 = .ok (.new 51, 3) := by decide +kernel
theorem dX11_init_79 : decode cX11_init 79 = .ok (.dup, 1) := by decide +kernel
theorem dX11_init_80 : decode cX11_init 80 = .ok (.invokespecial 53, 3) := by decide +kernel
theorem dX11_init_83 : decode cX11_init 83 = .ok (.putfield 54, 3) := by decide +kernel
theorem dX11_init_86 : decode cX11_init 86 = .ok (.aload_n 0, 1) := by decide +kernel
theorem dX11_init_87 : decode cX11_init 87 = .ok (.new 58, 3) := by decide +kernel
theorem dX11_init_90 : decode cX11_init 90 = .ok (.dup, 1) := by decide +kernel
theorem dX11_init_91 : decode cX11_init 91 = .ok (.invokespecial 60, 3) := by decide +kernel
theorem dX11_init_94 : decode cX11_init 94 = .ok (.putfield 61, 3) := by decide +kernel
theorem dX11_init_97 : decode cX11_init 97 = .ok (.aload_n 0, 1) := by decide +kernel
theorem dX11_init_98 : decode cX11_init 98 = .ok (.new 65, 3) := by decide +kernel
theorem dX11_init_101 : decode cX11_init 101 = .ok (.dup, 1) := by decide +kernel
theorem dX11_init_102 : decode cX11_init 102 = .ok (.invokespecial 67, 3) := by decide +kernel
theorem dX11_init_105 : decode cX11_init 105 = .ok (.putfield 68, 3) := by decide +kernel
theorem dX11_init_108 : decode cX11_init 108 = .ok (.return_, 1) := by decide +kernel
theorem dX11_state_0 : decode cX11_state 0 = .ok (.aload_n 0, 1) := by decide +kernel
theorem dX11_state_1 : decode cX11_state 1 = .ok (.getfield 19, 3) := by decide +kernel
theorem dX11_state_4 : decode cX11_state 4 = .ok (.getfield 72, 3) := by decide +kernel
theorem dX11_state_7 : decode cX11_state 7 = .ok (.istore_n 2, 1) := by decide +kernel
theorem dX11_state_8 : decode cX11_state 8 = .ok (.aload_n 0, 1) := by decide +kernel
theorem dX11_state_9 : decode cX11_state 9 = .ok (.getfield 19, 3) := by decide +kernel
theorem dX11_state_12 : decode cX11_state 12 = .ok (.iload_n 1, 1) := by decide +kernel
theorem dX11_state_13 : decode cX11_state 13 = .ok (.putfield 72, 3) := by decide +kernel
theorem dX11_state_16 : decode cX11_state 16 = .ok (.iload_n 2, 1) := by decide +kernel
theorem dX11_state_17 : decode cX11_state 17 = .ok (.ireturn, 1) := by decide +kernel
theorem dX11_letters_0 : decode cX11_letters 0 = .ok (.iload_n 1, 1) := by decide +kernel
theorem dX11_letters_1 : decode cX11_letters 1 = .ok (.iconst 2, 1) := by decide +kernel
theorem dX11_letters_2 : decode cX11_letters 2 = .ok (.if_icmp .lt 9, 3) := by decide +kernel
theorem dX11_letters_5 : decode cX11_letters 5 = .ok (.iload_n 1, 1) := by decide +kernel
theorem dX11_letters_6 : decode cX11_letters 6 = .ok (.bipush 8, 2) := by decide +kernel
theorem dX11_letters_8 : decode cX11_letters 8 = .ok (.if_icmp .le 5, 3) := by decide +kernel
theorem dX11_letters_11 : decode cX11_letters 11 = .ok (.iconst 0, 1) := by decide +kernel
theorem dX11_letters_12 : decode cX11_letters 12 = .ok (.ireturn, 1) := by decide +kernel
theorem dX11_letters_13 : decode cX11_letters 13 = .ok (.aload_n 0, 1) := by decide +kernel
theorem dX11_letters_14 : decode cX11_letters 14 = .ok (.getfield 19, 3) := by decide +kernel
theorem dX11_letters_17 : decode cX11_letters 17 = .ok (.iload_n 1, 1) := by decide +kernel
theorem dX11_letters_18 : decode cX11_letters 18 = .ok (.invokevirtual 76, 3) := by decide +kernel
theorem dX11_letters_21 : decode cX11_letters 21 = .ok (.iconst 1, 1) := by decide +kernel
theorem dX11_letters_22 : decode cX11_letters 22 = .ok (.ireturn, 1) := by decide +kernel
theorem dX11_feed_0 : decode cX11_feed 0 = .ok (.aload_n 0, 1) := by decide +kernel
theorem dX11_feed_1 : decode cX11_feed 1 = .ok (.getfield 12, 3) := by decide +kernel
theorem dX11_feed_4 : decode cX11_feed 4 = .ok (.getfield 80, 3) := by decide +kernel
theorem dX11_feed_7 : decode cX11_feed 7 = .ok (.bipush 20, 2) := by decide +kernel
theorem dX11_feed_9 : decode cX11_feed 9 = .ok (.iadd, 1) := by decide +kernel
theorem dX11_feed_10 : decode cX11_feed 10 = .ok (.sipush 400, 3) := by decide +kernel
theorem dX11_feed_13 : decode cX11_feed 13 = .ok (.if_icmp .le 5, 3) := by decide +kernel
theorem dX11_feed_16 : decode cX11_feed 16 = .ok (.iconst (-1), 1) := by decide +kernel
theorem dX11_feed_17 : decode cX11_feed 17 = .ok (.ireturn, 1) := by decide +kernel
theorem dX11_feed_18 : decode cX11_feed 18 = .ok (.aload_n 0, 1) := by decide +kernel
theorem dX11_feed_19 : decode cX11_feed 19 = .ok (.getfield 12, 3) := by decide +kernel
theorem dX11_feed_22 : decode cX11_feed 22 = .ok (.iload_n 1, 1) := by decide +kernel
theorem dX11_feed_23 : decode cX11_feed 23 = .ok (.invokevirtual 83, 3) := by decide +kernel
theorem dX11_feed_26 : decode cX11_feed 26 = .ok (.aload_n 0, 1) := by decide +kernel
theorem dX11_feed_27 : decode cX11_feed 27 = .ok (.getfield 12, 3) := by decide +kernel
theorem dX11_feed_30 : decode cX11_feed 30 = .ok (.iload_n 2, 1) := by decide +kernel
theorem dX11_feed_31 : decode cX11_feed 31 = .ok (.invokevirtual 83, 3) := by decide +kernel
theorem dX11_feed_34 : decode cX11_feed 34 = .ok (.aload_n 0, 1) := by decide +kernel
theorem dX11_feed_35 : decode cX11_feed 35 = .ok (.getfield 12, 3) := by decide +kernel
theorem dX11_feed_38 : decode cX11_feed 38 = .ok (.iload_n 3, 1) := by decide +kernel
theorem dX11_feed_39 : decode cX11_feed 39 = .ok (.invokevirtual 83, 3) := by decide +kernel
theorem dX11_feed_42 : decode cX11_feed 42 = .ok (.aload_n 0, 1) := by decide +kernel
theorem dX11_feed_43 : decode cX11_feed 43 = .ok (.getfield 12, 3) := by decide +kernel
theorem dX11_feed_46 : decode cX11_feed 46 = .ok (.iload 4, 2) := by decide +kernel
theorem dX11_feed_48 : decode cX11_feed 48 = .ok (.invokevirtual 83, 3) := by decide +kernel
theorem dX11_feed_51 : decode cX11_feed 51 = .ok (.aload_n 0, 1) := by decide +kernel
theorem dX11_feed_52 : decode cX11_feed 52 = .ok (.getfield 12, 3) := by decide +kernel
theorem dX11_feed_55 : decode cX11_feed 55 = .ok (.iload 5, 2) := by decide +kernel
theorem dX11_feed_57 : decode cX11_feed 57 = .ok (.invokevirtual 83, 3) := by decide +kernel
theorem dX11_feed_60 : decode cX11_feed 60 = .ok (.aload_n 0, 1) := by decide +kernel
theorem dX11_feed_61 : decode cX11_feed 61 = .ok (.getfield 12, 3) := by decide +kernel
theorem dX11_feed_64 : decode cX11_feed 64 = .ok (.getfield 80, 3) := by decide +kernel
theorem dX11_feed_67 : decode cX11_feed 67 = .ok (.ireturn, 1) := by decide +kernel
theorem dX11_end_0 : decode cX11_end 0 = .ok (.iload_n 1, 1) := by decide +kernel
theorem dX11_end_1 : decode cX11_end 1 = .ok (.ifCond .lt 14, 3) := by decide +kernel
theorem dX11_end_4 : decode cX11_end 4 = .ok (.iload_n 1, 1) := by decide +kernel
theorem dX11_end_5 : decode cX11_end 5 = .ok (.aload_n 0, 1) := by decide +kernel
theorem dX11_end_6 : decode cX11_end 6 = .ok (.getfield 12, 3) := by decide +kernel
theorem dX11_end_9 : decode cX11_end 9 = .ok (.getfield 80, 3) := by decide +kernel
theorem dX11_end_12 : decode cX11_end 12 = .ok (.if_icmp .le 5, 3) := by decide +kernel
theorem dX11_end_15 : decode cX11_end 15 = .ok (.iconst 0, 1) := by decide +kernel
theorem dX11_end_16 : decode cX11_end 16 = .ok (.ireturn, 1) := by decide +kernel
theorem dX11_end_17 : decode cX11_end 17 = .ok (.aload_n 0, 1) := by decide +kernel
theorem dX11_end_18 : decode cX11_end 18 = .ok (.getfield 12, 3) := by decide +kernel
theorem dX11_end_21 : decode cX11_end 21 = .ok (.iload_n 1, 1) := by decide +kernel
theorem dX11_end_22 : decode cX11_end 22 = .ok (.putfield 80, 3) := by decide +kernel
theorem dX11_end_25 : decode cX11_end 25 = .ok (.iconst 1, 1) := by decide +kernel
theorem dX11_end_26 : decode cX11_end 26 = .ok (.ireturn, 1) := by decide +kernel
theorem dX11_text_0 : decode cX11_text 0 = .ok (.aload_n 0, 1) := by decide +kernel
theorem dX11_text_1 : decode cX11_text 1 = .ok (.getfield 33, 3) := by decide +kernel
theorem dX11_text_4 : decode cX11_text 4 = .ok (.aload_n 0, 1) := by decide +kernel
theorem dX11_text_5 : decode cX11_text 5 = .ok (.getfield 12, 3) := by decide +kernel
theorem dX11_text_8 : decode cX11_text 8 = .ok (.invokevirtual 86, 3) := by decide +kernel
theorem dX11_text_11 : decode cX11_text 11 = .ok (.istore_n 1, 1) := by decide +kernel
theorem dX11_text_12 : decode cX11_text 12 = .ok (.aload_n 0, 1) := by decide +kernel
theorem dX11_text_13 : decode cX11_text 13 = .ok (.getfield 12, 3) := by decide +kernel
theorem dX11_text_16 : decode cX11_text 16 = .ok (.iconst 0, 1) := by decide +kernel
theorem dX11_text_17 : decode cX11_text 17 = .ok (.putfield 80, 3) := by decide +kernel
theorem dX11_text_20 : decode cX11_text 20 = .ok (.iload_n 1, 1) := by decide +kernel
theorem dX11_text_21 : decode cX11_text 21 = .ok (.ifCond .ne 5, 3) := by decide +kernel
theorem dX11_text_24 : decode cX11_text 24 = .ok (.iconst (-1), 1) := by decide +kernel
theorem dX11_text_25 : decode cX11_text 25 = .ok (.ireturn, 1) := by decide +kernel
theorem dX11_text_26 : decode cX11_text 26 = .ok (.aload_n 0, 1) := by decide +kernel
theorem dX11_text_27 : decode cX11_text 27 = .ok (.getfield 19, 3) := by decide +kernel
theorem dX11_text_30 : decode cX11_text 30 = .ok (.getfield 90, 3) := by decide +kernel
theorem dX11_text_33 : decode cX11_text 33 = .ok (.aload_n 0, 1) := by decide +kernel
theorem dX11_text_34 : decode cX11_text 34 = .ok (.getfield 33, 3) := by decide +kernel
theorem dX11_text_37 : decode cX11_text 37 = .ok (.getfield 94, 3) := by decide +kernel
theorem dX11_text_40 : decode cX11_text 40 = .ok (.invokevirtual 97, 3) := by decide +kernel
theorem dX11_text_43 : decode cX11_text 43 = .ok (.aload_n 0, 1) := by decide +kernel
theorem dX11_text_44 : decode cX11_text 44 = .ok (.getfield 19, 3) := by decide +kernel
theorem dX11_text_47 : decode cX11_text 47 = .ok (.getfield 90, 3) := by decide +kernel
theorem dX11_text_50 : decode cX11_text 50 = .ok (.getfield 103, 3) := by decide +kernel
theorem dX11_text_53 : decode cX11_text 53 = .ok (.ireturn, 1) := by decide +kernel
theorem dX11_fault_0 : decode cX11_fault 0 = .ok (.iload_n 1, 1) := by decide +kernel
theorem dX11_fault_1 : decode cX11_fault 1 = .ok (.ifCond .ne 11, 3) := by decide +kernel
theorem dX11_fault_4 : decode cX11_fault 4 = .ok (.aload_n 0, 1) := by decide +kernel
theorem dX11_fault_5 : decode cX11_fault 5 = .ok (.getfield 33, 3) := by decide +kernel
theorem dX11_fault_8 : decode cX11_fault 8 = .ok (.getfield 106, 3) := by decide +kernel
theorem dX11_fault_11 : decode cX11_fault 11 = .ok (.ireturn, 1) := by decide +kernel
theorem dX11_fault_12 : decode cX11_fault 12 = .ok (.iload_n 1, 1) := by decide +kernel
theorem dX11_fault_13 : decode cX11_fault 13 = .ok (.iconst 1, 1) := by decide +kernel
theorem dX11_fault_14 : decode cX11_fault 14 = .ok (.if_icmp .ne 13, 3) := by decide +kernel
theorem dX11_fault_17 : decode cX11_fault 17 = .ok (.aload_n 0, 1) := by decide +kernel
theorem dX11_fault_18 : decode cX11_fault 18 = .ok (.getfield 33, 3) := by decide +kernel
theorem dX11_fault_21 : decode cX11_fault 21 = .ok (.getfield 109, 3) := by decide +kernel
theorem dX11_fault_24 : decode cX11_fault 24 = .ok (.goto 4, 3) := by decide +kernel
theorem dX11_fault_27 : decode cX11_fault 27 = .ok (.iconst (-1), 1) := by decide +kernel
theorem dX11_fault_28 : decode cX11_fault 28 = .ok (.ireturn, 1) := by decide +kernel
theorem dX11_person_0 : decode cX11_person 0 = .ok (.aload_n 0, 1) := by decide +kernel
theorem dX11_person_1 : decode cX11_person 1 = .ok (.getfield 12, 3) := by decide +kernel
theorem dX11_person_4 : decode cX11_person 4 = .ok (.invokevirtual 112, 3) := by decide +kernel
theorem dX11_person_7 : decode cX11_person 7 = .ok (.istore 4, 2) := by decide +kernel
theorem dX11_person_9 : decode cX11_person 9 = .ok (.iload 4, 2) := by decide +kernel
theorem dX11_person_11 : decode cX11_person 11 = .ok (.iconst (-1), 1) := by decide +kernel
theorem dX11_person_12 : decode cX11_person 12 = .ok (.if_icmp .eq 33, 3) := by decide +kernel
theorem dX11_person_15 : decode cX11_person 15 = .ok (.iload_n 1, 1) := by decide +kernel
theorem dX11_person_16 : decode cX11_person 16 = .ok (.ifCond .lt 29, 3) := by decide +kernel
theorem dX11_person_19 : decode cX11_person 19 = .ok (.iload_n 1, 1) := by decide +kernel
theorem dX11_person_20 : decode cX11_person 20 = .ok (.iconst 1, 1) := by decide +kernel
theorem dX11_person_21 : decode cX11_person 21 = .ok (.if_icmp .gt 24, 3) := by decide +kernel
theorem dX11_person_24 : decode cX11_person 24 = .ok (.iload_n 2, 1) := by decide +kernel
theorem dX11_person_25 : decode cX11_person 25 = .ok (.ifCond .lt 20, 3) := by decide +kernel
theorem dX11_person_28 : decode cX11_person 28 = .ok (.iload_n 2, 1) := by decide +kernel
theorem dX11_person_29 : decode cX11_person 29 = .ok (.bipush 99, 2) := by decide +kernel
theorem dX11_person_31 : decode cX11_person 31 = .ok (.if_icmp .gt 14, 3) := by decide +kernel
theorem dX11_person_34 : decode cX11_person 34 = .ok (.iload_n 3, 1) := by decide +kernel
theorem dX11_person_35 : decode cX11_person 35 = .ok (.ifCond .lt 10, 3) := by decide +kernel
theorem dX11_person_38 : decode cX11_person 38 = .ok (.iload_n 3, 1) := by decide +kernel
theorem dX11_person_39 : decode cX11_person 39 = .ok (.sipush 9999, 3) := by decide +kernel
theorem dX11_person_42 : decode cX11_person 42 = .ok (.if_icmp .le 5, 3) := by decide +kernel
theorem dX11_person_45 : decode cX11_person 45 = .ok (.iconst (-1), 1) := by decide +kernel
theorem dX11_person_46 : decode cX11_person 46 = .ok (.ireturn, 1) := by decide +kernel
theorem dX11_person_47 : decode cX11_person 47 = .ok (.aload_n 0, 1) := by decide +kernel
theorem dX11_person_48 : decode cX11_person 48 = .ok (.getfield 19, 3) := by decide +kernel
theorem dX11_person_51 : decode cX11_person 51 = .ok (.getfield 116, 3) := by decide +kernel
theorem dX11_person_54 : decode cX11_person 54 = .ok (.iload 4, 2) := by decide +kernel
theorem dX11_person_56 : decode cX11_person 56 = .ok (.iload_n 1, 1) := by decide +kernel
theorem dX11_person_57 : decode cX11_person 57 = .ok (.iload_n 2, 1) := by decide +kernel
theorem dX11_person_58 : decode cX11_person 58 = .ok (.iload_n 3, 1) := by decide +kernel
theorem dX11_person_59 : decode cX11_person 59 = .ok (.invokevirtual 120, 3) := by decide +kernel
theorem dX11_person_62 : decode cX11_person 62 = .ok (.ireturn, 1) := by decide +kernel
theorem dX11_named_0 : decode cX11_named 0 = .ok (.aload_n 0, 1) := by decide +kernel
theorem dX11_named_1 : decode cX11_named 1 = .ok (.getfield 12, 3) := by decide +kernel
theorem dX11_named_4 : decode cX11_named 4 = .ok (.invokevirtual 112, 3) := by decide +kernel
theorem dX11_named_7 : decode cX11_named 7 = .ok (.istore_n 2, 1) := by decide +kernel
theorem dX11_named_8 : decode cX11_named 8 = .ok (.iload_n 2, 1) := by decide +kernel
theorem dX11_named_9 : decode cX11_named 9 = .ok (.iconst (-1), 1) := by decide +kernel
theorem dX11_named_10 : decode cX11_named 10 = .ok (.if_icmp .eq 17, 3) := by decide +kernel
theorem dX11_named_13 : decode cX11_named 13 = .ok (.aload_n 0, 1) := by decide +kernel
theorem dX11_named_14 : decode cX11_named 14 = .ok (.getfield 19, 3) := by decide +kernel
theorem dX11_named_17 : decode cX11_named 17 = .ok (.getfield 116, 3) := by decide +kernel
theorem dX11_named_20 : decode cX11_named 20 = .ok (.iload_n 1, 1) := by decide +kernel
theorem dX11_named_21 : decode cX11_named 21 = .ok (.invokevirtual 125, 3) := by decide +kernel
theorem dX11_named_24 : decode cX11_named 24 = .ok (.ifCond .ne 5, 3) := by decide +kernel
theorem dX11_named_27 : decode cX11_named 27 = .ok (.iconst 0, 1) := by decide +kernel
theorem dX11_named_28 : decode cX11_named 28 = .ok (.ireturn, 1) := by decide +kernel
theorem dX11_named_29 : decode cX11_named 29 = .ok (.aload_n 0, 1) := by decide +kernel
theorem dX11_named_30 : decode cX11_named 30 = .ok (.getfield 19, 3) := by decide +kernel
theorem dX11_named_33 : decode cX11_named 33 = .ok (.getfield 116, 3) := by decide +kernel
theorem dX11_named_36 : decode cX11_named 36 = .ok (.getfield 129, 3) := by decide +kernel
theorem dX11_named_39 : decode cX11_named 39 = .ok (.iload_n 1, 1) := by decide +kernel
theorem dX11_named_40 : decode cX11_named 40 = .ok (.iload_n 2, 1) := by decide +kernel
theorem dX11_named_41 : decode cX11_named 41 = .ok (.iastore, 1) := by decide +kernel
theorem dX11_named_42 : decode cX11_named 42 = .ok (.iconst 1, 1) := by decide +kernel
theorem dX11_named_43 : decode cX11_named 43 = .ok (.ireturn, 1) := by decide +kernel
theorem dX11_alphabet_0 : decode cX11_alphabet 0 = .ok (.aload_n 0, 1) := by decide +kernel
theorem dX11_alphabet_1 : decode cX11_alphabet 1 = .ok (.getfield 12, 3) := by decide +kernel
theorem dX11_alphabet_4 : decode cX11_alphabet 4 = .ok (.aload_n 0, 1) := by decide +kernel
theorem dX11_alphabet_5 : decode cX11_alphabet 5 = .ok (.getfield 19, 3) := by decide +kernel
theorem dX11_alphabet_8 : decode cX11_alphabet 8 = .ok (.getfield 133, 3) := by decide +kernel
theorem dX11_alphabet_11 : decode cX11_alphabet 11 = .ok (.invokevirtual 136, 3) := by decide +kernel
theorem dX11_alphabet_14 : decode cX11_alphabet 14 = .ok (.istore_n 1, 1) := by decide +kernel
theorem dX11_alphabet_15 : decode cX11_alphabet 15 = .ok (.iload_n 1, 1) := by decide +kernel
theorem dX11_alphabet_16 : decode cX11_alphabet 16 = .ok (.iconst (-1), 1) := by decide +kernel
theorem dX11_alphabet_17 : decode cX11_alphabet 17 = .ok (.if_icmp .ne 5, 3) := by decide +kernel
theorem dX11_alphabet_20 : decode cX11_alphabet 20 = .ok (.iconst 0, 1) := by decide +kernel
theorem dX11_alphabet_21 : decode cX11_alphabet 21 = .ok (.ireturn, 1) := by decide +kernel
theorem dX11_alphabet_22 : decode cX11_alphabet 22 = .ok (.aload_n 0, 1) := by decide +kernel
theorem dX11_alphabet_23 : decode cX11_alphabet 23 = .ok (.getfield 19, 3) := by decide +kernel
theorem dX11_alphabet_26 : decode cX11_alphabet 26 = .ok (.iload_n 1, 1) := by decide +kernel
theorem dX11_alphabet_27 : decode cX11_alphabet 27 = .ok (.putfield 140, 3) := by decide +kernel
theorem dX11_alphabet_30 : decode cX11_alphabet 30 = .ok (.iconst 1, 1) := by decide +kernel
theorem dX11_alphabet_31 : decode cX11_alphabet 31 = .ok (.ireturn, 1) := by decide +kernel
theorem dX11_set_0 : decode cX11_set 0 = .ok (.iload_n 1, 1) := by decide +kernel
theorem dX11_set_1 : decode cX11_set 1 = .ok (.ifCond .lt 27, 3) := by decide +kernel
theorem dX11_set_4 : decode cX11_set 4 = .ok (.iload_n 1, 1) := by decide +kernel
theorem dX11_set_5 : decode cX11_set 5 = .ok (.bipush 7, 2) := by decide +kernel
theorem dX11_set_7 : decode cX11_set 7 = .ok (.if_icmp .ge 21, 3) := by decide +kernel
theorem dX11_set_10 : decode cX11_set 10 = .ok (.iload_n 2, 1) := by decide +kernel
theorem dX11_set_11 : decode cX11_set 11 = .ok (.getstatic 143, 3) := by decide +kernel
theorem dX11_set_14 : decode cX11_set 14 = .ok (.iload_n 1, 1) := by decide +kernel
theorem dX11_set_15 : decode cX11_set 15 = .ok (.iaload, 1) := by decide +kernel
theorem dX11_set_16 : decode cX11_set 16 = .ok (.if_icmp .lt 12, 3) := by decide +kernel
theorem dX11_set_19 : decode cX11_set 19 = .ok (.iload_n 2, 1) := by decide +kernel
theorem dX11_set_20 : decode cX11_set 20 = .ok (.getstatic 146, 3) := by decide +kernel
theorem dX11_set_23 : decode cX11_set 23 = .ok (.iload_n 1, 1) := by decide +kernel
theorem dX11_set_24 : decode cX11_set 24 = .ok (.iaload, 1) := by decide +kernel
theorem dX11_set_25 : decode cX11_set 25 = .ok (.if_icmp .le 5, 3) := by decide +kernel
theorem dX11_set_28 : decode cX11_set 28 = .ok (.iconst 0, 1) := by decide +kernel
theorem dX11_set_29 : decode cX11_set 29 = .ok (.ireturn, 1) := by decide +kernel
theorem dX11_set_30 : decode cX11_set 30 = .ok (.aload_n 0, 1) := by decide +kernel
theorem dX11_set_31 : decode cX11_set 31 = .ok (.getfield 19, 3) := by decide +kernel
theorem dX11_set_34 : decode cX11_set 34 = .ok (.getfield 149, 3) := by decide +kernel
theorem dX11_set_37 : decode cX11_set 37 = .ok (.iload_n 1, 1) := by decide +kernel
theorem dX11_set_38 : decode cX11_set 38 = .ok (.iload_n 2, 1) := by decide +kernel
theorem dX11_set_39 : decode cX11_set 39 = .ok (.iastore, 1) := by decide +kernel
theorem dX11_set_40 : decode cX11_set 40 = .ok (.iconst 1, 1) := by decide +kernel
theorem dX11_set_41 : decode cX11_set 41 = .ok (.ireturn, 1) := by decide +kernel
theorem dX11_site_0 : decode cX11_site 0 = .ok (.iload_n 1, 1) := by decide +kernel
theorem dX11_site_1 : decode cX11_site 1 = .ok (.ifCond .lt 30, 3) := by decide +kernel
theorem dX11_site_4 : decode cX11_site 4 = .ok (.iload_n 1, 1) := by decide +kernel
theorem dX11_site_5 : decode cX11_site 5 = .ok (.bipush 6, 2) := by decide +kernel
theorem dX11_site_7 : decode cX11_site 7 = .ok (.if_icmp .ge 24, 3) := by decide +kernel
theorem dX11_site_10 : decode cX11_site 10 = .ok (.iload_n 2, 1) := by decide +kernel
theorem dX11_site_11 : decode cX11_site 11 = .ok (.ifCond .lt 20, 3) := by decide +kernel
theorem dX11_site_14 : decode cX11_site 14 = .ok (.iload_n 2, 1) := by decide +kernel
theorem dX11_site_15 : decode cX11_site 15 = .ok (.iconst 1, 1) := by decide +kernel
theorem dX11_site_16 : decode cX11_site 16 = .ok (.if_icmp .gt 15, 3) := by decide +kernel
theorem dX11_site_19 : decode cX11_site 19 = .ok (.iload_n 3, 1) := by decide +kernel
theorem dX11_site_20 : decode cX11_site 20 = .ok (.bipush (-99), 2) := by decide +kernel
theorem dX11_site_22 : decode cX11_site 22 = .ok (.if_icmp .lt 9, 3) := by decide +kernel
theorem dX11_site_25 : decode cX11_site 25 = .ok (.iload_n 3, 1) := by decide +kernel
theorem dX11_site_26 : decode cX11_site 26 = .ok (.bipush 99, 2) := by decide +kernel
theorem dX11_site_28 : decode cX11_site 28 = .ok (.if_icmp .le 5, 3) := by decide +kernel
theorem dX11_site_31 : decode cX11_site 31 = .ok (.iconst 0, 1) := by decide +kernel
theorem dX11_site_32 : decode cX11_site 32 = .ok (.ireturn, 1) := by decide +kernel
theorem dX11_site_33 : decode cX11_site 33 = .ok (.iload 4, 2) := by decide +kernel
theorem dX11_site_35 : decode cX11_site 35 = .ok (.ifCond .lt 22, 3) := by decide +kernel
theorem dX11_site_38 : decode cX11_site 38 = .ok (.iload 4, 2) := by decide +kernel
theorem dX11_site_40 : decode cX11_site 40 = .ok (.bipush 99, 2) := by decide +kernel
theorem dX11_site_42 : decode cX11_site 42 = .ok (.if_icmp .gt 15, 3) := by decide +kernel
theorem dX11_site_45 : decode cX11_site 45 = .ok (.iload 5, 2) := by decide +kernel
theorem dX11_site_47 : decode cX11_site 47 = .ok (.ifCond .lt 10, 3) := by decide +kernel
theorem dX11_site_50 : decode cX11_site 50 = .ok (.iload 5, 2) := by decide +kernel
theorem dX11_site_52 : decode cX11_site 52 = .ok (.bipush 20, 2) := by decide +kernel
theorem dX11_site_54 : decode cX11_site 54 = .ok (.if_icmp .le 5, 3) := by decide +kernel
theorem dX11_site_57 : decode cX11_site 57 = .ok (.iconst 0, 1) := by decide +kernel
theorem dX11_site_58 : decode cX11_site 58 = .ok (.ireturn, 1) := by decide +kernel
theorem dX11_site_59 : decode cX11_site 59 = .ok (.iload_n 1, 1) := by decide +kernel
theorem dX11_site_60 : decode cX11_site 60 = .ok (.iconst 4, 1) := by decide +kernel
theorem dX11_site_61 : decode cX11_site 61 = .ok (.imul, 1) := by decide +kernel
theorem dX11_site_62 : decode cX11_site 62 = .ok (.istore 6, 2) := by decide +kernel
theorem dX11_site_64 : decode cX11_site 64 = .ok (.aload_n 0, 1) := by decide +kernel
theorem dX11_site_65 : decode cX11_site 65 = .ok (.getfield 19, 3) := by decide +kernel
theorem dX11_site_68 : decode cX11_site 68 = .ok (.getfield 152, 3) := by decide +kernel
theorem dX11_site_71 : decode cX11_site 71 = .ok (.iload 6, 2) := by decide +kernel
theorem dX11_site_73 : decode cX11_site 73 = .ok (.iload_n 2, 1) := by decide +kernel
theorem dX11_site_74 : decode cX11_site 74 = .ok (.iastore, 1) := by decide +kernel
theorem dX11_site_75 : decode cX11_site 75 = .ok (.aload_n 0, 1) := by decide +kernel
theorem dX11_site_76 : decode cX11_site 76 = .ok (.getfield 19, 3) := by decide +kernel
theorem dX11_site_79 : decode cX11_site 79 = .ok (.getfield 152, 3) := by decide +kernel
theorem dX11_site_82 : decode cX11_site 82 = .ok (.iload 6, 2) := by decide +kernel
theorem dX11_site_84 : decode cX11_site 84 = .ok (.iconst 1, 1) := by decide +kernel
theorem dX11_site_85 : decode cX11_site 85 = .ok (.iadd, 1) := by decide +kernel
theorem dX11_site_86 : decode cX11_site 86 = .ok (.iload_n 3, 1) := by decide +kernel
theorem dX11_site_87 : decode cX11_site 87 = .ok (.iastore, 1) := by decide +kernel
theorem dX11_site_88 : decode cX11_site 88 = .ok (.aload_n 0, 1) := by decide +kernel
theorem dX11_site_89 : decode cX11_site 89 = .ok (.getfield 19, 3) := by decide +kernel
theorem dX11_site_92 : decode cX11_site 92 = .ok (.getfield 152, 3) := by decide +kernel
theorem dX11_site_95 : decode cX11_site 95 = .ok (.iload 6, 2) := by decide +kernel
theorem dX11_site_97 : decode cX11_site 97 = .ok (.iconst 2, 1) := by decide +kernel
theorem dX11_site_98 : decode cX11_site 98 = .ok (.iadd, 1) := by decide +kernel
theorem dX11_site_99 : decode cX11_site 99 = .ok (.iload 4, 2) := by decide +kernel
theorem dX11_site_101 : decode cX11_site 101 = .ok (.iastore, 1) := by decide +kernel
theorem dX11_site_102 : decode cX11_site 102 = .ok (.aload_n 0, 1) := by decide +kernel
theorem dX11_site_103 : decode cX11_site 103 = .ok (.getfield 19, 3) := by decide +kernel
theorem dX11_site_106 : decode cX11_site 106 = .ok (.getfield 152, 3) := by decide +kernel
theorem dX11_site_109 : decode cX11_site 109 = .ok (.iload 6, 2) := by decide +kernel
theorem dX11_site_111 : decode cX11_site 111 = .ok (.iconst 3, 1) := by decide +kernel
theorem dX11_site_112 : decode cX11_site 112 = .ok (.iadd, 1) := by decide +kernel
theorem dX11_site_113 : decode cX11_site 113 = .ok (.iload 5, 2) := by decide +kernel
theorem dX11_site_115 : decode cX11_site 115 = .ok (.iastore, 1) := by decide +kernel
theorem dX11_site_116 : decode cX11_site 116 = .ok (.iconst 1, 1) := by decide +kernel
theorem dX11_site_117 : decode cX11_site 117 = .ok (.ireturn, 1) := by decide +kernel
theorem dX11_chance_0 : decode cX11_chance 0 = .ok (.aload_n 0, 1) := by decide +kernel
theorem dX11_chance_1 : decode cX11_chance 1 = .ok (.getfield 12, 3) := by decide +kernel
theorem dX11_chance_4 : decode cX11_chance 4 = .ok (.aload_n 0, 1) := by decide +kernel
theorem dX11_chance_5 : decode cX11_chance 5 = .ok (.getfield 19, 3) := by decide +kernel
theorem dX11_chance_8 : decode cX11_chance 8 = .ok (.getfield 133, 3) := by decide +kernel
theorem dX11_chance_11 : decode cX11_chance 11 = .ok (.invokevirtual 136, 3) := by decide +kernel
theorem dX11_chance_14 : decode cX11_chance 14 = .ok (.istore_n 3, 1) := by decide +kernel
theorem dX11_chance_15 : decode cX11_chance 15 = .ok (.iload_n 3, 1) := by decide +kernel
theorem dX11_chance_16 : decode cX11_chance 16 = .ok (.iconst (-1), 1) := by decide +kernel
theorem dX11_chance_17 : decode cX11_chance 17 = .ok (.if_icmp .eq 23, 3) := by decide +kernel
theorem dX11_chance_20 : decode cX11_chance 20 = .ok (.iload_n 1, 1) := by decide +kernel
theorem dX11_chance_21 : decode cX11_chance 21 = .ok (.ifCond .lt 19, 3) := by decide +kernel
theorem dX11_chance_24 : decode cX11_chance 24 = .ok (.iload_n 1, 1) := by decide +kernel
theorem dX11_chance_25 : decode cX11_chance 25 = .ok (.bipush 6, 2) := by decide +kernel
theorem dX11_chance_27 : decode cX11_chance 27 = .ok (.if_icmp .ge 13, 3) := by decide +kernel
theorem dX11_chance_30 : decode cX11_chance 30 = .ok (.iload_n 2, 1) := by decide +kernel
theorem dX11_chance_31 : decode cX11_chance 31 = .ok (.ifCond .lt 9, 3) := by decide +kernel
theorem dX11_chance_34 : decode cX11_chance 34 = .ok (.iload_n 2, 1) := by decide +kernel
theorem dX11_chance_35 : decode cX11_chance 35 = .ok (.bipush 99, 2) := by decide +kernel
theorem dX11_chance_37 : decode cX11_chance 37 = .ok (.if_icmp .le 5, 3) := by decide +kernel
theorem dX11_chance_40 : decode cX11_chance 40 = .ok (.iconst 0, 1) := by decide +kernel
theorem dX11_chance_41 : decode cX11_chance 41 = .ok (.ireturn, 1) := by decide +kernel
theorem dX11_chance_42 : decode cX11_chance 42 = .ok (.aload_n 0, 1) := by decide +kernel
theorem dX11_chance_43 : decode cX11_chance 43 = .ok (.getfield 19, 3) := by decide +kernel
theorem dX11_chance_46 : decode cX11_chance 46 = .ok (.getfield 155, 3) := by decide +kernel
theorem dX11_chance_49 : decode cX11_chance 49 = .ok (.iload_n 1, 1) := by decide +kernel
theorem dX11_chance_50 : decode cX11_chance 50 = .ok (.iload_n 3, 1) := by decide +kernel
theorem dX11_chance_51 : decode cX11_chance 51 = .ok (.iastore, 1) := by decide +kernel
theorem dX11_chance_52 : decode cX11_chance 52 = .ok (.aload_n 0, 1) := by decide +kernel
theorem dX11_chance_53 : decode cX11_chance 53 = .ok (.getfield 19, 3) := by decide +kernel
theorem dX11_chance_56 : decode cX11_chance 56 = .ok (.getfield 158, 3) := by decide +kernel
theorem dX11_chance_59 : decode cX11_chance 59 = .ok (.iload_n 1, 1) := by decide +kernel
theorem dX11_chance_60 : decode cX11_chance 60 = .ok (.iload_n 2, 1) := by decide +kernel
theorem dX11_chance_61 : decode cX11_chance 61 = .ok (.iastore, 1) := by decide +kernel
theorem dX11_chance_62 : decode cX11_chance 62 = .ok (.iconst 1, 1) := by decide +kernel
theorem dX11_chance_63 : decode cX11_chance 63 = .ok (.ireturn, 1) := by decide +kernel
theorem dX11_of_0 : decode cX11_of 0 = .ok (.aload_n 0, 1) := by decide +kernel
theorem dX11_of_1 : decode cX11_of 1 = .ok (.getfield 19, 3) := by decide +kernel
theorem dX11_of_4 : decode cX11_of 4 = .ok (.getfield 116, 3) := by decide +kernel
theorem dX11_of_7 : decode cX11_of 7 = .ok (.astore_n 3, 1) := by decide +kernel
theorem dX11_of_8 : decode cX11_of 8 = .ok (.aload_n 3, 1) := by decide +kernel
theorem dX11_of_9 : decode cX11_of 9 = .ok (.iload_n 1, 1) := by decide +kernel
theorem dX11_of_10 : decode cX11_of 10 = .ok (.invokevirtual 125, 3) := by decide +kernel
theorem dX11_of_13 : decode cX11_of 13 = .ok (.ifCond .ne 6, 3) := by decide +kernel
theorem dX11_of_16 : decode cX11_of 16 = .ok (.ldc 161, 2) := by decide +kernel
theorem dX11_of_18 : decode cX11_of 18 = .ok (.ireturn, 1) := by decide +kernel
theorem dX11_of_19 : decode cX11_of 19 = .ok (.iload_n 2, 1) := by decide +kernel
theorem dX11_of_20 : decode cX11_of 20 = .ok (.tableswitch 95 0 4 #[36, 43, 50, 57, 67], 36) := by decide +kernel
theorem dX11_of_56 : decode cX11_of 56 = .ok (.aload_n 3, 1) := by decide +kernel
theorem dX11_of_57 : decode cX11_of 57 = .ok (.getfield 162, 3) := by decide +kernel
theorem dX11_of_60 : decode cX11_of 60 = .ok (.iload_n 1, 1) := by decide +kernel
theorem dX11_of_61 : decode cX11_of 61 = .ok (.iaload, 1) := by decide +kernel
theorem dX11_of_62 : decode cX11_of 62 = .ok (.ireturn, 1) := by decide +kernel
theorem dX11_of_63 : decode cX11_of 63 = .ok (.aload_n 3, 1) := by decide +kernel
theorem dX11_of_64 : decode cX11_of 64 = .ok (.getfield 165, 3) := by decide +kernel
theorem dX11_of_67 : decode cX11_of 67 = .ok (.iload_n 1, 1) := by decide +kernel
theorem dX11_of_68 : decode cX11_of 68 = .ok (.iaload, 1) := by decide +kernel
theorem dX11_of_69 : decode cX11_of 69 = .ok (.ireturn, 1) := by decide +kernel
theorem dX11_of_70 : decode cX11_of 70 = .ok (.aload_n 3, 1) := by decide +kernel
theorem dX11_of_71 : decode cX11_of 71 = .ok (.getfield 168, 3) := by decide +kernel
theorem dX11_of_74 : decode cX11_of 74 = .ok (.iload_n 1, 1) := by decide +kernel
theorem dX11_of_75 : decode cX11_of 75 = .ok (.iaload, 1) := by decide +kernel
theorem dX11_of_76 : decode cX11_of 76 = .ok (.ireturn, 1) := by decide +kernel
theorem dX11_of_77 : decode cX11_of 77 = .ok (.aload_n 3, 1) := by decide +kernel
theorem dX11_of_78 : decode cX11_of 78 = .ok (.getfield 129, 3) := by decide +kernel
theorem dX11_of_81 : decode cX11_of 81 = .ok (.iload_n 1, 1) := by decide +kernel
theorem dX11_of_82 : decode cX11_of 82 = .ok (.iaload, 1) := by decide +kernel
theorem dX11_of_83 : decode cX11_of 83 = .ok (.invokestatic 171, 3) := by decide +kernel
theorem dX11_of_86 : decode cX11_of 86 = .ok (.ireturn, 1) := by decide +kernel
theorem dX11_of_87 : decode cX11_of 87 = .ok (.aload_n 0, 1) := by decide +kernel
theorem dX11_of_88 : decode cX11_of 88 = .ok (.getfield 40, 3) := by decide +kernel
theorem dX11_of_91 : decode cX11_of 91 = .ok (.aload_n 0, 1) := by decide +kernel
theorem dX11_of_92 : decode cX11_of 92 = .ok (.getfield 19, 3) := by decide +kernel
theorem dX11_of_95 : decode cX11_of 95 = .ok (.aload_n 0, 1) := by decide +kernel
theorem dX11_of_96 : decode cX11_of 96 = .ok (.getfield 19, 3) := by decide +kernel
theorem dX11_of_99 : decode cX11_of 99 = .ok (.getfield 140, 3) := by decide +kernel
theorem dX11_of_102 : decode cX11_of 102 = .ok (.invokevirtual 176, 3) := by decide +kernel
theorem dX11_of_105 : decode cX11_of 105 = .ok (.aload_n 0, 1) := by decide +kernel
theorem dX11_of_106 : decode cX11_of 106 = .ok (.getfield 40, 3) := by decide +kernel
theorem dX11_of_109 : decode cX11_of 109 = .ok (.getfield 180, 3) := by decide +kernel
theorem dX11_of_112 : decode cX11_of 112 = .ok (.iload_n 1, 1) := by decide +kernel
theorem dX11_of_113 : decode cX11_of 113 = .ok (.iaload, 1) := by decide +kernel
theorem dX11_of_114 : decode cX11_of 114 = .ok (.ireturn, 1) := by decide +kernel
theorem dX11_of_115 : decode cX11_of 115 = .ok (.aload_n 0, 1) := by decide +kernel
theorem dX11_of_116 : decode cX11_of 116 = .ok (.aload_n 3, 1) := by decide +kernel
theorem dX11_of_117 : decode cX11_of 117 = .ok (.getfield 129, 3) := by decide +kernel
theorem dX11_of_120 : decode cX11_of 120 = .ok (.iload_n 1, 1) := by decide +kernel
theorem dX11_of_121 : decode cX11_of 121 = .ok (.iaload, 1) := by decide +kernel
theorem dX11_of_122 : decode cX11_of 122 = .ok (.iload_n 2, 1) := by decide +kernel
theorem dX11_of_123 : decode cX11_of 123 = .ok (.invokevirtual 183, 3) := by decide +kernel
theorem dX11_of_126 : decode cX11_of 126 = .ok (.ireturn, 1) := by decide +kernel
theorem dX11_letterOfName_0 : decode cX11_letterOfName 0 = .ok (.iload_n 2, 1) := by decide +kernel
theorem dX11_letterOfName_1 : decode cX11_letterOfName 1 = .ok (.bipush 10, 2) := by decide +kernel
theorem dX11_letterOfName_3 : decode cX11_letterOfName 3 = .ok (.if_icmp .lt 9, 3) := by decide +kernel
theorem dX11_letterOfName_6 : decode cX11_letterOfName 6 = .ok (.iload_n 2, 1) := by decide +kernel
theorem dX11_letterOfName_7 : decode cX11_letterOfName 7 = .ok (.bipush 16, 2) := by decide +kernel
theorem dX11_letterOfName_9 : decode cX11_letterOfName 9 = .ok (.if_icmp .lt 6, 3) := by decide +kernel
theorem dX11_letterOfName_12 : decode cX11_letterOfName 12 = .ok (.ldc 161, 2) := by decide +kernel
theorem dX11_letterOfName_14 : decode cX11_letterOfName 14 = .ok (.ireturn, 1) := by decide +kernel
theorem dX11_letterOfName_15 : decode cX11_letterOfName 15 = .ok (.iload_n 1, 1) := by decide +kernel
theorem dX11_letterOfName_16 : decode cX11_letterOfName 16 = .ok (.iload_n 2, 1) := by decide +kernel
theorem dX11_letterOfName_17 : decode cX11_letterOfName 17 = .ok (.bipush 10, 2) := by decide +kernel
theorem dX11_letterOfName_19 : decode cX11_letterOfName 19 = .ok (.isub, 1) := by decide +kernel
theorem dX11_letterOfName_20 : decode cX11_letterOfName 20 = .ok (.invokestatic 187, 3) := by decide +kernel
theorem dX11_letterOfName_23 : decode cX11_letterOfName 23 = .ok (.istore_n 3, 1) := by decide +kernel
theorem dX11_letterOfName_24 : decode cX11_letterOfName 24 = .ok (.iload_n 3, 1) := by decide +kernel
theorem dX11_letterOfName_25 : decode cX11_letterOfName 25 = .ok (.iconst (-1), 1) := by decide +kernel
theorem dX11_letterOfName_26 : decode cX11_letterOfName 26 = .ok (.if_icmp .ne 8, 3) := by decide +kernel
theorem dX11_letterOfName_29 : decode cX11_letterOfName 29 = .ok (.ldc 161, 2) := by decide +kernel
theorem dX11_letterOfName_31 : decode cX11_letterOfName 31 = .ok (.goto 4, 3) := by decide +kernel
theorem dX11_letterOfName_34 : decode cX11_letterOfName 34 = .ok (.iload_n 3, 1) := by decide +kernel
theorem dX11_letterOfName_35 : decode cX11_letterOfName 35 = .ok (.ireturn, 1) := by decide +kernel
theorem dX11_worth_0 : decode cX11_worth 0 = .ok (.aload_n 0, 1) := by decide +kernel
theorem dX11_worth_1 : decode cX11_worth 1 = .ok (.getfield 19, 3) := by decide +kernel
theorem dX11_worth_4 : decode cX11_worth 4 = .ok (.getfield 116, 3) := by decide +kernel
theorem dX11_worth_7 : decode cX11_worth 7 = .ok (.iload_n 1, 1) := by decide +kernel
theorem dX11_worth_8 : decode cX11_worth 8 = .ok (.invokevirtual 125, 3) := by decide +kernel
theorem dX11_worth_11 : decode cX11_worth 11 = .ok (.ifCond .eq 14, 3) := by decide +kernel
theorem dX11_worth_14 : decode cX11_worth 14 = .ok (.iload_n 2, 1) := by decide +kernel
theorem dX11_worth_15 : decode cX11_worth 15 = .ok (.iconst (-1), 1) := by decide +kernel
theorem dX11_worth_16 : decode cX11_worth 16 = .ok (.if_icmp .lt 9, 3) := by decide +kernel
theorem dX11_worth_19 : decode cX11_worth 19 = .ok (.iload_n 2, 1) := by decide +kernel
theorem dX11_worth_20 : decode cX11_worth 20 = .ok (.bipush 6, 2) := by decide +kernel
theorem dX11_worth_22 : decode cX11_worth 22 = .ok (.if_icmp .lt 6, 3) := by decide +kernel
theorem dX11_worth_25 : decode cX11_worth 25 = .ok (.ldc 161, 2) := by decide +kernel
theorem dX11_worth_27 : decode cX11_worth 27 = .ok (.ireturn, 1) := by decide +kernel
theorem dX11_worth_28 : decode cX11_worth 28 = .ok (.iload_n 2, 1) := by decide +kernel
theorem dX11_worth_29 : decode cX11_worth 29 = .ok (.iconst (-1), 1) := by decide +kernel
theorem dX11_worth_30 : decode cX11_worth 30 = .ok (.if_icmp .ne 13, 3) := by decide +kernel
theorem dX11_worth_33 : decode cX11_worth 33 = .ok (.aload_n 0, 1) := by decide +kernel
theorem dX11_worth_34 : decode cX11_worth 34 = .ok (.getfield 19, 3) := by decide +kernel
theorem dX11_worth_37 : decode cX11_worth 37 = .ok (.getfield 140, 3) := by decide +kernel
theorem dX11_worth_40 : decode cX11_worth 40 = .ok (.goto 12, 3) := by decide +kernel
theorem dX11_worth_43 : decode cX11_worth 43 = .ok (.aload_n 0, 1) := by decide +kernel
theorem dX11_worth_44 : decode cX11_worth 44 = .ok (.getfield 19, 3) := by decide +kernel
theorem dX11_worth_47 : decode cX11_worth 47 = .ok (.getfield 155, 3) := by decide +kernel
theorem dX11_worth_50 : decode cX11_worth 50 = .ok (.iload_n 2, 1) := by decide +kernel
theorem dX11_worth_51 : decode cX11_worth 51 = .ok (.iaload, 1) := by decide +kernel
theorem dX11_worth_52 : decode cX11_worth 52 = .ok (.istore_n 3, 1) := by decide +kernel
theorem dX11_worth_53 : decode cX11_worth 53 = .ok (.iload_n 3, 1) := by decide +kernel
theorem dX11_worth_54 : decode cX11_worth 54 = .ok (.iconst (-1), 1) := by decide +kernel
theorem dX11_worth_55 : decode cX11_worth 55 = .ok (.if_icmp .ne 8, 3) := by decide +kernel
theorem dX11_worth_58 : decode cX11_worth 58 = .ok (.ldc 161, 2) := by decide +kernel
theorem dX11_worth_60 : decode cX11_worth 60 = .ok (.goto 9, 3) := by decide +kernel
theorem dX11_worth_63 : decode cX11_worth 63 = .ok (.aload_n 0, 1) := by decide +kernel
theorem dX11_worth_64 : decode cX11_worth 64 = .ok (.iload_n 1, 1) := by decide +kernel
theorem dX11_worth_65 : decode cX11_worth 65 = .ok (.iload_n 3, 1) := by decide +kernel
theorem dX11_worth_66 : decode cX11_worth 66 = .ok (.invokevirtual 190, 3) := by decide +kernel
theorem dX11_worth_69 : decode cX11_worth 69 = .ok (.ireturn, 1) := by decide +kernel
theorem dX11_worthBy_0 : decode cX11_worthBy 0 = .ok (.aload_n 0, 1) := by decide +kernel
theorem dX11_worthBy_1 : decode cX11_worthBy 1 = .ok (.getfield 40, 3) := by decide +kernel
theorem dX11_worthBy_4 : decode cX11_worthBy 4 = .ok (.aload_n 0, 1) := by decide +kernel
theorem dX11_worthBy_5 : decode cX11_worthBy 5 = .ok (.getfield 19, 3) := by decide +kernel
theorem dX11_worthBy_8 : decode cX11_worthBy 8 = .ok (.invokevirtual 193, 3) := by decide +kernel
theorem dX11_worthBy_11 : decode cX11_worthBy 11 = .ok (.aload_n 0, 1) := by decide +kernel
theorem dX11_worthBy_12 : decode cX11_worthBy 12 = .ok (.getfield 40, 3) := by decide +kernel
theorem dX11_worthBy_15 : decode cX11_worthBy 15 = .ok (.aload_n 0, 1) := by decide +kernel
theorem dX11_worthBy_16 : decode cX11_worthBy 16 = .ok (.getfield 19, 3) := by decide +kernel
theorem dX11_worthBy_19 : decode cX11_worthBy 19 = .ok (.iload_n 2, 1) := by decide +kernel
theorem dX11_worthBy_20 : decode cX11_worthBy 20 = .ok (.invokevirtual 176, 3) := by decide +kernel
theorem dX11_worthBy_23 : decode cX11_worthBy 23 = .ok (.aload_n 0, 1) := by decide +kernel
theorem dX11_worthBy_24 : decode cX11_worthBy 24 = .ok (.getfield 40, 3) := by decide +kernel
theorem dX11_worthBy_27 : decode cX11_worthBy 27 = .ok (.iload_n 1, 1) := by decide +kernel
theorem dX11_worthBy_28 : decode cX11_worthBy 28 = .ok (.invokevirtual 197, 3) := by decide +kernel
theorem dX11_worthBy_31 : decode cX11_worthBy 31 = .ok (.ireturn, 1) := by decide +kernel
theorem dX11_expected_0 : decode cX11_expected 0 = .ok (.aload_n 0, 1) := by decide +kernel
theorem dX11_expected_1 : decode cX11_expected 1 = .ok (.getfield 19, 3) := by decide +kernel
theorem dX11_expected_4 : decode cX11_expected 4 = .ok (.getfield 116, 3) := by decide +kernel
theorem dX11_expected_7 : decode cX11_expected 7 = .ok (.iload_n 1, 1) := by decide +kernel
theorem dX11_expected_8 : decode cX11_expected 8 = .ok (.invokevirtual 125, 3) := by decide +kernel
theorem dX11_expected_11 : decode cX11_expected 11 = .ok (.ifCond .eq 12, 3) := by decide +kernel
theorem dX11_expected_14 : decode cX11_expected 14 = .ok (.iload_n 2, 1) := by decide +kernel
theorem dX11_expected_15 : decode cX11_expected 15 = .ok (.ifCond .lt 8, 3) := by decide +kernel
theorem dX11_expected_18 : decode cX11_expected 18 = .ok (.iload_n 2, 1) := by decide +kernel
theorem dX11_expected_19 : decode cX11_expected 19 = .ok (.iconst 1, 1) := by decide +kernel
theorem dX11_expected_20 : decode cX11_expected 20 = .ok (.if_icmp .le 6, 3) := by decide +kernel
theorem dX11_expected_23 : decode cX11_expected 23 = .ok (.ldc 161, 2) := by decide +kernel
theorem dX11_expected_25 : decode cX11_expected 25 = .ok (.ireturn, 1) := by decide +kernel
theorem dX11_expected_26 : decode cX11_expected 26 = .ok (.iconst 0, 1) := by decide +kernel
theorem dX11_expected_27 : decode cX11_expected 27 = .ok (.istore_n 3, 1) := by decide +kernel
theorem dX11_expected_28 : decode cX11_expected 28 = .ok (.iconst 0, 1) := by decide +kernel
theorem dX11_expected_29 : decode cX11_expected 29 = .ok (.istore 4, 2) := by decide +kernel
theorem dX11_expected_31 : decode cX11_expected 31 = .ok (.iconst 0, 1) := by decide +kernel
theorem dX11_expected_32 : decode cX11_expected 32 = .ok (.istore 5, 2) := by decide +kernel
theorem dX11_expected_34 : decode cX11_expected 34 = .ok (.iload 5, 2) := by decide +kernel
theorem dX11_expected_36 : decode cX11_expected 36 = .ok (.bipush 6, 2) := by decide +kernel
theorem dX11_expected_38 : decode cX11_expected 38 = .ok (.if_icmp .ge 80, 3) := by decide +kernel
theorem dX11_expected_41 : decode cX11_expected 41 = .ok (.aload_n 0, 1) := by decide +kernel
theorem dX11_expected_42 : decode cX11_expected 42 = .ok (.getfield 19, 3) := by decide +kernel
theorem dX11_expected_45 : decode cX11_expected 45 = .ok (.getfield 155, 3) := by decide +kernel
theorem dX11_expected_48 : decode cX11_expected 48 = .ok (.iload 5, 2) := by decide +kernel
theorem dX11_expected_50 : decode cX11_expected 50 = .ok (.iaload, 1) := by decide +kernel
theorem dX11_expected_51 : decode cX11_expected 51 = .ok (.iconst (-1), 1) := by decide +kernel
theorem dX11_expected_52 : decode cX11_expected 52 = .ok (.if_icmp .eq 60, 3) := by decide +kernel
theorem dX11_expected_55 : decode cX11_expected 55 = .ok (.aload_n 0, 1) := by decide +kernel
theorem dX11_expected_56 : decode cX11_expected 56 = .ok (.getfield 19, 3) := by decide +kernel
theorem dX11_expected_59 : decode cX11_expected 59 = .ok (.getfield 158, 3) := by decide +kernel
theorem dX11_expected_62 : decode cX11_expected 62 = .ok (.iload 5, 2) := by decide +kernel
theorem dX11_expected_64 : decode cX11_expected 64 = .ok (.iaload, 1) := by decide +kernel
theorem dX11_expected_65 : decode cX11_expected 65 = .ok (.ifCond .le 47, 3) := by decide +kernel
theorem dX11_expected_68 : decode cX11_expected 68 = .ok (.iload_n 3, 1) := by decide +kernel
theorem dX11_expected_69 : decode cX11_expected 69 = .ok (.aload_n 0, 1) := by decide +kernel
theorem dX11_expected_70 : decode cX11_expected 70 = .ok (.iload_n 1, 1) := by decide +kernel
theorem dX11_expected_71 : decode cX11_expected 71 = .ok (.aload_n 0, 1) := by decide +kernel
theorem dX11_expected_72 : decode cX11_expected 72 = .ok (.getfield 19, 3) := by decide +kernel
theorem dX11_expected_75 : decode cX11_expected 75 = .ok (.getfield 155, 3) := by decide +kernel
theorem dX11_expected_78 : decode cX11_expected 78 = .ok (.iload 5, 2) := by decide +kernel
theorem dX11_expected_80 : decode cX11_expected 80 = .ok (.iaload, 1) := by decide +kernel
theorem dX11_expected_81 : decode cX11_expected 81 = .ok (.invokevirtual 190, 3) := by decide +kernel
theorem dX11_expected_84 : decode cX11_expected 84 = .ok (.aload_n 0, 1) := by decide +kernel
theorem dX11_expected_85 : decode cX11_expected 85 = .ok (.getfield 19, 3) := by decide +kernel
theorem dX11_expected_88 : decode cX11_expected 88 = .ok (.getfield 158, 3) := by decide +kernel
theorem dX11_expected_91 : decode cX11_expected 91 = .ok (.iload 5, 2) := by decide +kernel
theorem dX11_expected_93 : decode cX11_expected 93 = .ok (.iaload, 1) := by decide +kernel
theorem dX11_expected_94 : decode cX11_expected 94 = .ok (.imul, 1) := by decide +kernel
theorem dX11_expected_95 : decode cX11_expected 95 = .ok (.iadd, 1) := by decide +kernel
theorem dX11_expected_96 : decode cX11_expected 96 = .ok (.istore_n 3, 1) := by decide +kernel
theorem dX11_expected_97 : decode cX11_expected 97 = .ok (.iload 4, 2) := by decide +kernel
theorem dX11_expected_99 : decode cX11_expected 99 = .ok (.aload_n 0, 1) := by decide +kernel
theorem dX11_expected_100 : decode cX11_expected 100 = .ok (.getfield 19, 3) := by decide +kernel
theorem dX11_expected_103 : decode cX11_expected 103 = .ok (.getfield 158, 3) := by decide +kernel
theorem dX11_expected_106 : decode cX11_expected 106 = .ok (.iload 5, 2) := by decide +kernel
theorem dX11_expected_108 : decode cX11_expected 108 = .ok (.iaload, 1) := by decide +kernel
theorem dX11_expected_109 : decode cX11_expected 109 = .ok (.iadd, 1) := by decide +kernel
theorem dX11_expected_110 : decode cX11_expected 110 = .ok (.istore 4, 2) := by decide +kernel
theorem dX11_expected_112 : decode cX11_expected 112 = .ok (.iinc 5 1, 3) := by decide +kernel
theorem dX11_expected_115 : decode cX11_expected 115 = .ok (.goto (-81), 3) := by decide +kernel
theorem dX11_expected_118 : decode cX11_expected 118 = .ok (.iload_n 3, 1) := by decide +kernel
theorem dX11_expected_119 : decode cX11_expected 119 = .ok (.invokestatic 200, 3) := by decide +kernel
theorem dX11_expected_122 : decode cX11_expected 122 = .ok (.iload 4, 2) := by decide +kernel
theorem dX11_expected_124 : decode cX11_expected 124 = .ok (.invokestatic 205, 3) := by decide +kernel
theorem dX11_expected_127 : decode cX11_expected 127 = .ok (.istore 5, 2) := by decide +kernel
theorem dX11_expected_129 : decode cX11_expected 129 = .ok (.iload 5, 2) := by decide +kernel
theorem dX11_expected_131 : decode cX11_expected 131 = .ok (.ifCond .ne 5, 3) := by decide +kernel
theorem dX11_expected_134 : decode cX11_expected 134 = .ok (.iconst 0, 1) := by decide +kernel
theorem dX11_expected_135 : decode cX11_expected 135 = .ok (.ireturn, 1) := by decide +kernel
theorem dX11_expected_136 : decode cX11_expected 136 = .ok (.iload_n 2, 1) := by decide +kernel
theorem dX11_expected_137 : decode cX11_expected 137 = .ok (.ifCond .ne 10, 3) := by decide +kernel
theorem dX11_expected_140 : decode cX11_expected 140 = .ok (.iload_n 3, 1) := by decide +kernel
theorem dX11_expected_141 : decode cX11_expected 141 = .ok (.iload 5, 2) := by decide +kernel
theorem dX11_expected_143 : decode cX11_expected 143 = .ok (.idiv, 1) := by decide +kernel
theorem dX11_expected_144 : decode cX11_expected 144 = .ok (.goto 8, 3) := by decide +kernel
theorem dX11_expected_147 : decode cX11_expected 147 = .ok (.iload 4, 2) := by decide +kernel
theorem dX11_expected_149 : decode cX11_expected 149 = .ok (.iload 5, 2) := by decide +kernel
theorem dX11_expected_151 : decode cX11_expected 151 = .ok (.idiv, 1) := by decide +kernel
theorem dX11_expected_152 : decode cX11_expected 152 = .ok (.ireturn, 1) := by decide +kernel
theorem dX11_commonPart_0 : decode cX11_commonPart 0 = .ok (.iload_n 0, 1) := by decide +kernel
theorem dX11_commonPart_1 : decode cX11_commonPart 1 = .ok (.istore_n 2, 1) := by decide +kernel
theorem dX11_commonPart_2 : decode cX11_commonPart 2 = .ok (.iload_n 1, 1) := by decide +kernel
theorem dX11_commonPart_3 : decode cX11_commonPart 3 = .ok (.istore_n 3, 1) := by decide +kernel
theorem dX11_commonPart_4 : decode cX11_commonPart 4 = .ok (.iconst 0, 1) := by decide +kernel
theorem dX11_commonPart_5 : decode cX11_commonPart 5 = .ok (.istore 4, 2) := by decide +kernel
theorem dX11_commonPart_7 : decode cX11_commonPart 7 = .ok (.iload 4, 2) := by decide +kernel
theorem dX11_commonPart_9 : decode cX11_commonPart 9 = .ok (.bipush 64, 2) := by decide +kernel
theorem dX11_commonPart_11 : decode cX11_commonPart 11 = .ok (.if_icmp .ge 23, 3) := by decide +kernel
theorem dX11_commonPart_14 : decode cX11_commonPart 14 = .ok (.iload_n 3, 1) := by decide +kernel
theorem dX11_commonPart_15 : decode cX11_commonPart 15 = .ok (.ifCond .eq 19, 3) := by decide +kernel
theorem dX11_commonPart_18 : decode cX11_commonPart 18 = .ok (.iload_n 2, 1) := by decide +kernel
theorem dX11_commonPart_19 : decode cX11_commonPart 19 = .ok (.iload_n 3, 1) := by decide +kernel
theorem dX11_commonPart_20 : decode cX11_commonPart 20 = .ok (.irem, 1) := by decide +kernel
theorem dX11_commonPart_21 : decode cX11_commonPart 21 = .ok (.istore 5, 2) := by decide +kernel
theorem dX11_commonPart_23 : decode cX11_commonPart 23 = .ok (.iload_n 3, 1) := by decide +kernel
theorem dX11_commonPart_24 : decode cX11_commonPart 24 = .ok (.istore_n 2, 1) := by decide +kernel
theorem dX11_commonPart_25 : decode cX11_commonPart 25 = .ok (.iload 5, 2) := by decide +kernel
theorem dX11_commonPart_27 : decode cX11_commonPart 27 = .ok (.istore_n 3, 1) := by decide +kernel
theorem dX11_commonPart_28 : decode cX11_commonPart 28 = .ok (.iinc 4 1, 3) := by decide +kernel
theorem dX11_commonPart_31 : decode cX11_commonPart 31 = .ok (.goto (-24), 3) := by decide +kernel
theorem dX11_commonPart_34 : decode cX11_commonPart 34 = .ok (.iload_n 2, 1) := by decide +kernel
theorem dX11_commonPart_35 : decode cX11_commonPart 35 = .ok (.ireturn, 1) := by decide +kernel
theorem dX11_with_0 : decode cX11_with 0 = .ok (.aload_n 0, 1) := by decide +kernel
theorem dX11_with_1 : decode cX11_with 1 = .ok (.getfield 12, 3) := by decide +kernel
theorem dX11_with_4 : decode cX11_with 4 = .ok (.invokevirtual 112, 3) := by decide +kernel
theorem dX11_with_7 : decode cX11_with 7 = .ok (.istore_n 3, 1) := by decide +kernel
theorem dX11_with_8 : decode cX11_with 8 = .ok (.iload_n 3, 1) := by decide +kernel
theorem dX11_with_9 : decode cX11_with 9 = .ok (.iconst (-1), 1) := by decide +kernel
theorem dX11_with_10 : decode cX11_with 10 = .ok (.if_icmp .eq 26, 3) := by decide +kernel
theorem dX11_with_13 : decode cX11_with 13 = .ok (.aload_n 0, 1) := by decide +kernel
theorem dX11_with_14 : decode cX11_with 14 = .ok (.getfield 19, 3) := by decide +kernel
theorem dX11_with_17 : decode cX11_with 17 = .ok (.getfield 116, 3) := by decide +kernel
theorem dX11_with_20 : decode cX11_with 20 = .ok (.iload_n 1, 1) := by decide +kernel
theorem dX11_with_21 : decode cX11_with 21 = .ok (.invokevirtual 125, 3) := by decide +kernel
theorem dX11_with_24 : decode cX11_with 24 = .ok (.ifCond .eq 12, 3) := by decide +kernel
theorem dX11_with_27 : decode cX11_with 27 = .ok (.iload_n 2, 1) := by decide +kernel
theorem dX11_with_28 : decode cX11_with 28 = .ok (.ifCond .lt 8, 3) := by decide +kernel
theorem dX11_with_31 : decode cX11_with 31 = .ok (.iload_n 2, 1) := by decide +kernel
theorem dX11_with_32 : decode cX11_with 32 = .ok (.iconst 3, 1) := by decide +kernel
theorem dX11_with_33 : decode cX11_with 33 = .ok (.if_icmp .le 6, 3) := by decide +kernel
theorem dX11_with_36 : decode cX11_with 36 = .ok (.ldc 161, 2) := by decide +kernel
theorem dX11_with_38 : decode cX11_with 38 = .ok (.ireturn, 1) := by decide +kernel
theorem dX11_with_39 : decode cX11_with 39 = .ok (.aload_n 0, 1) := by decide +kernel
theorem dX11_with_40 : decode cX11_with 40 = .ok (.getfield 40, 3) := by decide +kernel
theorem dX11_with_43 : decode cX11_with 43 = .ok (.aload_n 0, 1) := by decide +kernel
theorem dX11_with_44 : decode cX11_with 44 = .ok (.getfield 19, 3) := by decide +kernel
theorem dX11_with_47 : decode cX11_with 47 = .ok (.invokevirtual 193, 3) := by decide +kernel
theorem dX11_with_50 : decode cX11_with 50 = .ok (.aload_n 0, 1) := by decide +kernel
theorem dX11_with_51 : decode cX11_with 51 = .ok (.getfield 40, 3) := by decide +kernel
theorem dX11_with_54 : decode cX11_with 54 = .ok (.aload_n 0, 1) := by decide +kernel
theorem dX11_with_55 : decode cX11_with 55 = .ok (.getfield 19, 3) := by decide +kernel
theorem dX11_with_58 : decode cX11_with 58 = .ok (.aload_n 0, 1) := by decide +kernel
theorem dX11_with_59 : decode cX11_with 59 = .ok (.getfield 19, 3) := by decide +kernel
theorem dX11_with_62 : decode cX11_with 62 = .ok (.getfield 140, 3) := by decide +kernel
theorem dX11_with_65 : decode cX11_with 65 = .ok (.invokevirtual 176, 3) := by decide +kernel
theorem dX11_with_68 : decode cX11_with 68 = .ok (.aload_n 0, 1) := by decide +kernel
theorem dX11_with_69 : decode cX11_with 69 = .ok (.getfield 19, 3) := by decide +kernel
theorem dX11_with_72 : decode cX11_with 72 = .ok (.getfield 116, 3) := by decide +kernel
theorem dX11_with_75 : decode cX11_with 75 = .ok (.getfield 129, 3) := by decide +kernel
theorem dX11_with_78 : decode cX11_with 78 = .ok (.iload_n 1, 1) := by decide +kernel
theorem dX11_with_79 : decode cX11_with 79 = .ok (.iaload, 1) := by decide +kernel
theorem dX11_with_80 : decode cX11_with 80 = .ok (.istore 4, 2) := by decide +kernel
theorem dX11_with_82 : decode cX11_with 82 = .ok (.aload_n 0, 1) := by decide +kernel
theorem dX11_with_83 : decode cX11_with 83 = .ok (.getfield 40, 3) := by decide +kernel
theorem dX11_with_86 : decode cX11_with 86 = .ok (.iload_n 1, 1) := by decide +kernel
theorem dX11_with_87 : decode cX11_with 87 = .ok (.invokevirtual 197, 3) := by decide +kernel
theorem dX11_with_90 : decode cX11_with 90 = .ok (.istore 5, 2) := by decide +kernel
theorem dX11_with_92 : decode cX11_with 92 = .ok (.iload_n 2, 1) := by decide +kernel
theorem dX11_with_93 : decode cX11_with 93 = .ok (.ifCond .ne 29, 3) := by decide +kernel
theorem dX11_with_96 : decode cX11_with 96 = .ok (.aload_n 0, 1) := by decide +kernel
theorem dX11_with_97 : decode cX11_with 97 = .ok (.getfield 47, 3) := by decide +kernel
theorem dX11_with_100 : decode cX11_with 100 = .ok (.aload_n 0, 1) := by decide +kernel
theorem dX11_with_101 : decode cX11_with 101 = .ok (.getfield 19, 3) := by decide +kernel
theorem dX11_with_104 : decode cX11_with 104 = .ok (.iload_n 1, 1) := by decide +kernel
theorem dX11_with_105 : decode cX11_with 105 = .ok (.iload 4, 2) := by decide +kernel
theorem dX11_with_107 : decode cX11_with 107 = .ok (.iload_n 3, 1) := by decide +kernel
theorem dX11_with_108 : decode cX11_with 108 = .ok (.iload 5, 2) := by decide +kernel
theorem dX11_with_110 : decode cX11_with 110 = .ok (.invokevirtual 208, 3) := by decide +kernel
theorem dX11_with_113 : decode cX11_with 113 = .ok (.ifCond .eq 7, 3) := by decide +kernel
theorem dX11_with_116 : decode cX11_with 116 = .ok (.iconst 1, 1) := by decide +kernel
theorem dX11_with_117 : decode cX11_with 117 = .ok (.goto 4, 3) := by decide +kernel
theorem dX11_with_120 : decode cX11_with 120 = .ok (.iconst 0, 1) := by decide +kernel
theorem dX11_with_121 : decode cX11_with 121 = .ok (.ireturn, 1) := by decide +kernel
theorem dX11_with_122 : decode cX11_with 122 = .ok (.aload_n 0, 1) := by decide +kernel
theorem dX11_with_123 : decode cX11_with 123 = .ok (.getfield 47, 3) := by decide +kernel
theorem dX11_with_126 : decode cX11_with 126 = .ok (.aload_n 0, 1) := by decide +kernel
theorem dX11_with_127 : decode cX11_with 127 = .ok (.getfield 19, 3) := by decide +kernel
theorem dX11_with_130 : decode cX11_with 130 = .ok (.getfield 149, 3) := by decide +kernel
theorem dX11_with_133 : decode cX11_with 133 = .ok (.iload 4, 2) := by decide +kernel
theorem dX11_with_135 : decode cX11_with 135 = .ok (.iload_n 3, 1) := by decide +kernel
theorem dX11_with_136 : decode cX11_with 136 = .ok (.invokevirtual 212, 3) := by decide +kernel
theorem dX11_with_139 : decode cX11_with 139 = .ok (.istore 6, 2) := by decide +kernel
theorem dX11_with_141 : decode cX11_with 141 = .ok (.iload_n 2, 1) := by decide +kernel
theorem dX11_with_142 : decode cX11_with 142 = .ok (.iconst 1, 1) := by decide +kernel
theorem dX11_with_143 : decode cX11_with 143 = .ok (.if_icmp .ne 6, 3) := by decide +kernel
theorem dX11_with_146 : decode cX11_with 146 = .ok (.iload 6, 2) := by decide +kernel
theorem dX11_with_148 : decode cX11_with 148 = .ok (.ireturn, 1) := by decide +kernel
theorem dX11_with_149 : decode cX11_with 149 = .ok (.aload_n 0, 1) := by decide +kernel
theorem dX11_with_150 : decode cX11_with 150 = .ok (.getfield 40, 3) := by decide +kernel
theorem dX11_with_153 : decode cX11_with 153 = .ok (.aload_n 0, 1) := by decide +kernel
theorem dX11_with_154 : decode cX11_with 154 = .ok (.getfield 19, 3) := by decide +kernel
theorem dX11_with_157 : decode cX11_with 157 = .ok (.iload_n 1, 1) := by decide +kernel
theorem dX11_with_158 : decode cX11_with 158 = .ok (.iload_n 3, 1) := by decide +kernel
theorem dX11_with_159 : decode cX11_with 159 = .ok (.invokevirtual 216, 3) := by decide +kernel
theorem dX11_with_162 : decode cX11_with 162 = .ok (.istore 7, 2) := by decide +kernel
theorem dX11_with_164 : decode cX11_with 164 = .ok (.iload_n 2, 1) := by decide +kernel
theorem dX11_with_165 : decode cX11_with 165 = .ok (.iconst 2, 1) := by decide +kernel
theorem dX11_with_166 : decode cX11_with 166 = .ok (.if_icmp .ne 24, 3) := by decide +kernel
theorem dX11_with_169 : decode cX11_with 169 = .ok (.aload_n 0, 1) := by decide +kernel
theorem dX11_with_170 : decode cX11_with 170 = .ok (.getfield 19, 3) := by decide +kernel
theorem dX11_with_173 : decode cX11_with 173 = .ok (.getfield 149, 3) := by decide +kernel
theorem dX11_with_176 : decode cX11_with 176 = .ok (.iconst 5, 1) := by decide +kernel
theorem dX11_with_177 : decode cX11_with 177 = .ok (.iaload, 1) := by decide +kernel
theorem dX11_with_178 : decode cX11_with 178 = .ok (.iload 7, 2) := by decide +kernel
theorem dX11_with_180 : decode cX11_with 180 = .ok (.iload 5, 2) := by decide +kernel
theorem dX11_with_182 : decode cX11_with 182 = .ok (.isub, 1) := by decide +kernel
theorem dX11_with_183 : decode cX11_with 183 = .ok (.imul, 1) := by decide +kernel
theorem dX11_with_184 : decode cX11_with 184 = .ok (.iload 6, 2) := by decide +kernel
theorem dX11_with_186 : decode cX11_with 186 = .ok (.isub, 1) := by decide +kernel
theorem dX11_with_187 : decode cX11_with 187 = .ok (.goto 5, 3) := by decide +kernel
theorem dX11_with_190 : decode cX11_with 190 = .ok (.iload 7, 2) := by decide +kernel
theorem dX11_with_192 : decode cX11_with 192 = .ok (.ireturn, 1) := by decide +kernel
theorem dX11_sell_0 : decode cX11_sell 0 = .ok (.aload_n 0, 1) := by decide +kernel
theorem dX11_sell_1 : decode cX11_sell 1 = .ok (.getfield 12, 3) := by decide +kernel
theorem dX11_sell_4 : decode cX11_sell 4 = .ok (.invokevirtual 112, 3) := by decide +kernel
theorem dX11_sell_7 : decode cX11_sell 7 = .ok (.istore_n 1, 1) := by decide +kernel
theorem dX11_sell_8 : decode cX11_sell 8 = .ok (.iload_n 1, 1) := by decide +kernel
theorem dX11_sell_9 : decode cX11_sell 9 = .ok (.iconst (-1), 1) := by decide +kernel
theorem dX11_sell_10 : decode cX11_sell 10 = .ok (.if_icmp .eq 15, 3) := by decide +kernel
theorem dX11_sell_13 : decode cX11_sell 13 = .ok (.aload_n 0, 1) := by decide +kernel
theorem dX11_sell_14 : decode cX11_sell 14 = .ok (.getfield 19, 3) := by decide +kernel
theorem dX11_sell_17 : decode cX11_sell 17 = .ok (.getfield 220, 3) := by decide +kernel
theorem dX11_sell_20 : decode cX11_sell 20 = .ok (.bipush 10, 2) := by decide +kernel
theorem dX11_sell_22 : decode cX11_sell 22 = .ok (.if_icmp .lt 5, 3) := by decide +kernel
theorem dX11_sell_25 : decode cX11_sell 25 = .ok (.iconst (-1), 1) := by decide +kernel
theorem dX11_sell_26 : decode cX11_sell 26 = .ok (.ireturn, 1) := by decide +kernel
theorem dX11_sell_27 : decode cX11_sell 27 = .ok (.aload_n 0, 1) := by decide +kernel
theorem dX11_sell_28 : decode cX11_sell 28 = .ok (.getfield 19, 3) := by decide +kernel
theorem dX11_sell_31 : decode cX11_sell 31 = .ok (.getfield 223, 3) := by decide +kernel
theorem dX11_sell_34 : decode cX11_sell 34 = .ok (.aload_n 0, 1) := by decide +kernel
theorem dX11_sell_35 : decode cX11_sell 35 = .ok (.getfield 19, 3) := by decide +kernel
theorem dX11_sell_38 : decode cX11_sell 38 = .ok (.getfield 220, 3) := by decide +kernel
theorem dX11_sell_41 : decode cX11_sell 41 = .ok (.iload_n 1, 1) := by decide +kernel
theorem dX11_sell_42 : decode cX11_sell 42 = .ok (.iastore, 1) := by decide +kernel
theorem dX11_sell_43 : decode cX11_sell 43 = .ok (.aload_n 0, 1) := by decide +kernel
theorem dX11_sell_44 : decode cX11_sell 44 = .ok (.getfield 19, 3) := by decide +kernel
theorem dX11_sell_47 : decode cX11_sell 47 = .ok (.dup, 1) := by decide +kernel
theorem dX11_sell_48 : decode cX11_sell 48 = .ok (.getfield 220, 3) := by decide +kernel
theorem dX11_sell_51 : decode cX11_sell 51 = .ok (.iconst 1, 1) := by decide +kernel
theorem dX11_sell_52 : decode cX11_sell 52 = .ok (.iadd, 1) := by decide +kernel
theorem dX11_sell_53 : decode cX11_sell 53 = .ok (.putfield 220, 3) := by decide +kernel
theorem dX11_sell_56 : decode cX11_sell 56 = .ok (.aload_n 0, 1) := by decide +kernel
theorem dX11_sell_57 : decode cX11_sell 57 = .ok (.getfield 19, 3) := by decide +kernel
theorem dX11_sell_60 : decode cX11_sell 60 = .ok (.getfield 220, 3) := by decide +kernel
theorem dX11_sell_63 : decode cX11_sell 63 = .ok (.iconst 1, 1) := by decide +kernel
theorem dX11_sell_64 : decode cX11_sell 64 = .ok (.isub, 1) := by decide +kernel
theorem dX11_sell_65 : decode cX11_sell 65 = .ok (.ireturn, 1) := by decide +kernel
theorem dX11_take_0 : decode cX11_take 0 = .ok (.aload_n 0, 1) := by decide +kernel
theorem dX11_take_1 : decode cX11_take 1 = .ok (.getfield 19, 3) := by decide +kernel
theorem dX11_take_4 : decode cX11_take 4 = .ok (.getfield 116, 3) := by decide +kernel
theorem dX11_take_7 : decode cX11_take 7 = .ok (.iload_n 1, 1) := by decide +kernel
theorem dX11_take_8 : decode cX11_take 8 = .ok (.invokevirtual 125, 3) := by decide +kernel
theorem dX11_take_11 : decode cX11_take 11 = .ok (.ifCond .eq 18, 3) := by decide +kernel
theorem dX11_take_14 : decode cX11_take 14 = .ok (.iload_n 2, 1) := by decide +kernel
theorem dX11_take_15 : decode cX11_take 15 = .ok (.ifCond .lt 14, 3) := by decide +kernel
theorem dX11_take_18 : decode cX11_take 18 = .ok (.iload_n 2, 1) := by decide +kernel
theorem dX11_take_19 : decode cX11_take 19 = .ok (.aload_n 0, 1) := by decide +kernel
theorem dX11_take_20 : decode cX11_take 20 = .ok (.getfield 19, 3) := by decide +kernel
theorem dX11_take_23 : decode cX11_take 23 = .ok (.getfield 220, 3) := by decide +kernel
theorem dX11_take_26 : decode cX11_take 26 = .ok (.if_icmp .lt 5, 3) := by decide +kernel
theorem dX11_take_29 : decode cX11_take 29 = .ok (.iconst (-1), 1) := by decide +kernel
theorem dX11_take_30 : decode cX11_take 30 = .ok (.ireturn, 1) := by decide +kernel
theorem dX11_take_31 : decode cX11_take 31 = .ok (.aload_n 0, 1) := by decide +kernel
theorem dX11_take_32 : decode cX11_take 32 = .ok (.getfield 19, 3) := by decide +kernel
theorem dX11_take_35 : decode cX11_take 35 = .ok (.getfield 116, 3) := by decide +kernel
theorem dX11_take_38 : decode cX11_take 38 = .ok (.getfield 129, 3) := by decide +kernel
theorem dX11_take_41 : decode cX11_take 41 = .ok (.iload_n 1, 1) := by decide +kernel
theorem dX11_take_42 : decode cX11_take 42 = .ok (.iaload, 1) := by decide +kernel
theorem dX11_take_43 : decode cX11_take 43 = .ok (.istore_n 3, 1) := by decide +kernel
theorem dX11_take_44 : decode cX11_take 44 = .ok (.aload_n 0, 1) := by decide +kernel
theorem dX11_take_45 : decode cX11_take 45 = .ok (.getfield 19, 3) := by decide +kernel
theorem dX11_take_48 : decode cX11_take 48 = .ok (.getfield 223, 3) := by decide +kernel
theorem dX11_take_51 : decode cX11_take 51 = .ok (.iload_n 2, 1) := by decide +kernel
theorem dX11_take_52 : decode cX11_take 52 = .ok (.iaload, 1) := by decide +kernel
theorem dX11_take_53 : decode cX11_take 53 = .ok (.istore 4, 2) := by decide +kernel
theorem dX11_take_55 : decode cX11_take 55 = .ok (.aload_n 0, 1) := by decide +kernel
theorem dX11_take_56 : decode cX11_take 56 = .ok (.getfield 47, 3) := by decide +kernel
theorem dX11_take_59 : decode cX11_take 59 = .ok (.aload_n 0, 1) := by decide +kernel
theorem dX11_take_60 : decode cX11_take 60 = .ok (.getfield 19, 3) := by decide +kernel
theorem dX11_take_63 : decode cX11_take 63 = .ok (.getfield 149, 3) := by decide +kernel
theorem dX11_take_66 : decode cX11_take 66 = .ok (.iload_n 3, 1) := by decide +kernel
theorem dX11_take_67 : decode cX11_take 67 = .ok (.iload 4, 2) := by decide +kernel
theorem dX11_take_69 : decode cX11_take 69 = .ok (.invokevirtual 212, 3) := by decide +kernel
theorem dX11_take_72 : decode cX11_take 72 = .ok (.istore 5, 2) := by decide +kernel
theorem dX11_take_74 : decode cX11_take 74 = .ok (.aload_n 0, 1) := by decide +kernel
theorem dX11_take_75 : decode cX11_take 75 = .ok (.getfield 19, 3) := by decide +kernel
theorem dX11_take_78 : decode cX11_take 78 = .ok (.getfield 116, 3) := by decide +kernel
theorem dX11_take_81 : decode cX11_take 81 = .ok (.getfield 168, 3) := by decide +kernel
theorem dX11_take_84 : decode cX11_take 84 = .ok (.iload_n 1, 1) := by decide +kernel
theorem dX11_take_85 : decode cX11_take 85 = .ok (.iaload, 1) := by decide +kernel
theorem dX11_take_86 : decode cX11_take 86 = .ok (.iload 5, 2) := by decide +kernel
theorem dX11_take_88 : decode cX11_take 88 = .ok (.if_icmp .lt 33, 3) := by decide +kernel
theorem dX11_take_91 : decode cX11_take 91 = .ok (.aload_n 0, 1) := by decide +kernel
theorem dX11_take_92 : decode cX11_take 92 = .ok (.getfield 47, 3) := by decide +kernel
theorem dX11_take_95 : decode cX11_take 95 = .ok (.aload_n 0, 1) := by decide +kernel
theorem dX11_take_96 : decode cX11_take 96 = .ok (.getfield 19, 3) := by decide +kernel
theorem dX11_take_99 : decode cX11_take 99 = .ok (.iload_n 1, 1) := by decide +kernel
theorem dX11_take_100 : decode cX11_take 100 = .ok (.iload_n 3, 1) := by decide +kernel
theorem dX11_take_101 : decode cX11_take 101 = .ok (.iload 4, 2) := by decide +kernel
theorem dX11_take_103 : decode cX11_take 103 = .ok (.aload_n 0, 1) := by decide +kernel
theorem dX11_take_104 : decode cX11_take 104 = .ok (.iload_n 1, 1) := by decide +kernel
theorem dX11_take_105 : decode cX11_take 105 = .ok (.aload_n 0, 1) := by decide +kernel
theorem dX11_take_106 : decode cX11_take 106 = .ok (.getfield 19, 3) := by decide +kernel
theorem dX11_take_109 : decode cX11_take 109 = .ok (.getfield 140, 3) := by decide +kernel
theorem dX11_take_112 : decode cX11_take 112 = .ok (.invokevirtual 190, 3) := by decide +kernel
theorem dX11_take_115 : decode cX11_take 115 = .ok (.invokevirtual 208, 3) := by decide +kernel
theorem dX11_take_118 : decode cX11_take 118 = .ok (.ifCond .ne 5, 3) := by decide +kernel
theorem dX11_take_121 : decode cX11_take 121 = .ok (.iconst (-1), 1) := by decide +kernel
theorem dX11_take_122 : decode cX11_take 122 = .ok (.ireturn, 1) := by decide +kernel
theorem dX11_take_123 : decode cX11_take 123 = .ok (.aload_n 0, 1) := by decide +kernel
theorem dX11_take_124 : decode cX11_take 124 = .ok (.getfield 19, 3) := by decide +kernel
theorem dX11_take_127 : decode cX11_take 127 = .ok (.getfield 116, 3) := by decide +kernel
theorem dX11_take_130 : decode cX11_take 130 = .ok (.getfield 129, 3) := by decide +kernel
theorem dX11_take_133 : decode cX11_take 133 = .ok (.iload_n 1, 1) := by decide +kernel
theorem dX11_take_134 : decode cX11_take 134 = .ok (.iload 4, 2) := by decide +kernel
theorem dX11_take_136 : decode cX11_take 136 = .ok (.iastore, 1) := by decide +kernel
theorem dX11_take_137 : decode cX11_take 137 = .ok (.aload_n 0, 1) := by decide +kernel
theorem dX11_take_138 : decode cX11_take 138 = .ok (.getfield 19, 3) := by decide +kernel
theorem dX11_take_141 : decode cX11_take 141 = .ok (.getfield 116, 3) := by decide +kernel
theorem dX11_take_144 : decode cX11_take 144 = .ok (.getfield 168, 3) := by decide +kernel
theorem dX11_take_147 : decode cX11_take 147 = .ok (.iload_n 1, 1) := by decide +kernel
theorem dX11_take_148 : decode cX11_take 148 = .ok (.dup2, 1) := by decide +kernel
theorem dX11_take_149 : decode cX11_take 149 = .ok (.iaload, 1) := by decide +kernel
theorem dX11_take_150 : decode cX11_take 150 = .ok (.iload 5, 2) := by decide +kernel
theorem dX11_take_152 : decode cX11_take 152 = .ok (.isub, 1) := by decide +kernel
theorem dX11_take_153 : decode cX11_take 153 = .ok (.iastore, 1) := by decide +kernel
theorem dX11_take_154 : decode cX11_take 154 = .ok (.iload 5, 2) := by decide +kernel
theorem dX11_take_156 : decode cX11_take 156 = .ok (.ireturn, 1) := by decide +kernel
theorem dX11_rest_0 : decode cX11_rest 0 = .ok (.iload_n 1, 1) := by decide +kernel
theorem dX11_rest_1 : decode cX11_rest 1 = .ok (.ifCond .lt 8, 3) := by decide +kernel
theorem dX11_rest_4 : decode cX11_rest 4 = .ok (.iload_n 1, 1) := by decide +kernel
theorem dX11_rest_5 : decode cX11_rest 5 = .ok (.iconst 2, 1) := by decide +kernel
theorem dX11_rest_6 : decode cX11_rest 6 = .ok (.if_icmp .le 5, 3) := by decide +kernel
theorem dX11_rest_9 : decode cX11_rest 9 = .ok (.iconst (-1), 1) := by decide +kernel
theorem dX11_rest_10 : decode cX11_rest 10 = .ok (.ireturn, 1) := by decide +kernel
theorem dX11_rest_11 : decode cX11_rest 11 = .ok (.aload_n 0, 1) := by decide +kernel
theorem dX11_rest_12 : decode cX11_rest 12 = .ok (.getfield 54, 3) := by decide +kernel
theorem dX11_rest_15 : decode cX11_rest 15 = .ok (.aload_n 0, 1) := by decide +kernel
theorem dX11_rest_16 : decode cX11_rest 16 = .ok (.getfield 19, 3) := by decide +kernel
theorem dX11_rest_19 : decode cX11_rest 19 = .ok (.aload_n 0, 1) := by decide +kernel
theorem dX11_rest_20 : decode cX11_rest 20 = .ok (.getfield 40, 3) := by decide +kernel
theorem dX11_rest_23 : decode cX11_rest 23 = .ok (.aload_n 0, 1) := by decide +kernel
theorem dX11_rest_24 : decode cX11_rest 24 = .ok (.getfield 47, 3) := by decide +kernel
theorem dX11_rest_27 : decode cX11_rest 27 = .ok (.invokevirtual 226, 3) := by decide +kernel
theorem dX11_rest_30 : decode cX11_rest 30 = .ok (.iload_n 1, 1) := by decide +kernel
theorem dX11_rest_31 : decode cX11_rest 31 = .ok (.ifCond .ne 11, 3) := by decide +kernel
theorem dX11_rest_34 : decode cX11_rest 34 = .ok (.aload_n 0, 1) := by decide +kernel
theorem dX11_rest_35 : decode cX11_rest 35 = .ok (.getfield 54, 3) := by decide +kernel
theorem dX11_rest_38 : decode cX11_rest 38 = .ok (.getfield 230, 3) := by decide +kernel
theorem dX11_rest_41 : decode cX11_rest 41 = .ok (.ireturn, 1) := by decide +kernel
theorem dX11_rest_42 : decode cX11_rest 42 = .ok (.iload_n 1, 1) := by decide +kernel
theorem dX11_rest_43 : decode cX11_rest 43 = .ok (.iconst 1, 1) := by decide +kernel
theorem dX11_rest_44 : decode cX11_rest 44 = .ok (.if_icmp .ne 13, 3) := by decide +kernel
theorem dX11_rest_47 : decode cX11_rest 47 = .ok (.aload_n 0, 1) := by decide +kernel
theorem dX11_rest_48 : decode cX11_rest 48 = .ok (.getfield 54, 3) := by decide +kernel
theorem dX11_rest_51 : decode cX11_rest 51 = .ok (.getfield 233, 3) := by decide +kernel
theorem dX11_rest_54 : decode cX11_rest 54 = .ok (.goto 10, 3) := by decide +kernel
theorem dX11_rest_57 : decode cX11_rest 57 = .ok (.aload_n 0, 1) := by decide +kernel
theorem dX11_rest_58 : decode cX11_rest 58 = .ok (.getfield 54, 3) := by decide +kernel
theorem dX11_rest_61 : decode cX11_rest 61 = .ok (.getfield 236, 3) := by decide +kernel
theorem dX11_rest_64 : decode cX11_rest 64 = .ok (.ireturn, 1) := by decide +kernel
theorem dX11_wed_0 : decode cX11_wed 0 = .ok (.aload_n 0, 1) := by decide +kernel
theorem dX11_wed_1 : decode cX11_wed 1 = .ok (.getfield 19, 3) := by decide +kernel
theorem dX11_wed_4 : decode cX11_wed 4 = .ok (.getfield 116, 3) := by decide +kernel
theorem dX11_wed_7 : decode cX11_wed 7 = .ok (.iload_n 1, 1) := by decide +kernel
theorem dX11_wed_8 : decode cX11_wed 8 = .ok (.invokevirtual 125, 3) := by decide +kernel
theorem dX11_wed_11 : decode cX11_wed 11 = .ok (.ifCond .eq 12, 3) := by decide +kernel
theorem dX11_wed_14 : decode cX11_wed 14 = .ok (.iload_n 2, 1) := by decide +kernel
theorem dX11_wed_15 : decode cX11_wed 15 = .ok (.ifCond .lt 8, 3) := by decide +kernel
theorem dX11_wed_18 : decode cX11_wed 18 = .ok (.iload_n 2, 1) := by decide +kernel
theorem dX11_wed_19 : decode cX11_wed 19 = .ok (.iconst 2, 1) := by decide +kernel
theorem dX11_wed_20 : decode cX11_wed 20 = .ok (.if_icmp .le 6, 3) := by decide +kernel
theorem dX11_wed_23 : decode cX11_wed 23 = .ok (.ldc 161, 2) := by decide +kernel
theorem dX11_wed_25 : decode cX11_wed 25 = .ok (.ireturn, 1) := by decide +kernel
theorem dX11_wed_26 : decode cX11_wed 26 = .ok (.aload_n 0, 1) := by decide +kernel
theorem dX11_wed_27 : decode cX11_wed 27 = .ok (.getfield 40, 3) := by decide +kernel
theorem dX11_wed_30 : decode cX11_wed 30 = .ok (.aload_n 0, 1) := by decide +kernel
theorem dX11_wed_31 : decode cX11_wed 31 = .ok (.getfield 19, 3) := by decide +kernel
theorem dX11_wed_34 : decode cX11_wed 34 = .ok (.invokevirtual 193, 3) := by decide +kernel
theorem dX11_wed_37 : decode cX11_wed 37 = .ok (.aload_n 0, 1) := by decide +kernel
theorem dX11_wed_38 : decode cX11_wed 38 = .ok (.getfield 40, 3) := by decide +kernel
theorem dX11_wed_41 : decode cX11_wed 41 = .ok (.aload_n 0, 1) := by decide +kernel
theorem dX11_wed_42 : decode cX11_wed 42 = .ok (.getfield 19, 3) := by decide +kernel
theorem dX11_wed_45 : decode cX11_wed 45 = .ok (.aload_n 0, 1) := by decide +kernel
theorem dX11_wed_46 : decode cX11_wed 46 = .ok (.getfield 19, 3) := by decide +kernel
theorem dX11_wed_49 : decode cX11_wed 49 = .ok (.getfield 140, 3) := by decide +kernel
theorem dX11_wed_52 : decode cX11_wed 52 = .ok (.invokevirtual 176, 3) := by decide +kernel
theorem dX11_wed_55 : decode cX11_wed 55 = .ok (.aload_n 0, 1) := by decide +kernel
theorem dX11_wed_56 : decode cX11_wed 56 = .ok (.iload_n 1, 1) := by decide +kernel
theorem dX11_wed_57 : decode cX11_wed 57 = .ok (.invokevirtual 239, 3) := by decide +kernel
theorem dX11_wed_60 : decode cX11_wed 60 = .ok (.istore_n 3, 1) := by decide +kernel
theorem dX11_wed_61 : decode cX11_wed 61 = .ok (.iload_n 2, 1) := by decide +kernel
theorem dX11_wed_62 : decode cX11_wed 62 = .ok (.ifCond .ne 5, 3) := by decide +kernel
theorem dX11_wed_65 : decode cX11_wed 65 = .ok (.iload_n 3, 1) := by decide +kernel
theorem dX11_wed_66 : decode cX11_wed 66 = .ok (.ireturn, 1) := by decide +kernel
theorem dX11_wed_67 : decode cX11_wed 67 = .ok (.iload_n 3, 1) := by decide +kernel
theorem dX11_wed_68 : decode cX11_wed 68 = .ok (.iconst (-1), 1) := by decide +kernel
theorem dX11_wed_69 : decode cX11_wed 69 = .ok (.if_icmp .ne 14, 3) := by decide +kernel
theorem dX11_wed_72 : decode cX11_wed 72 = .ok (.iload_n 2, 1) := by decide +kernel
theorem dX11_wed_73 : decode cX11_wed 73 = .ok (.iconst 1, 1) := by decide +kernel
theorem dX11_wed_74 : decode cX11_wed 74 = .ok (.if_icmp .ne 7, 3) := by decide +kernel
theorem dX11_wed_77 : decode cX11_wed 77 = .ok (.iconst (-1), 1) := by decide +kernel
theorem dX11_wed_78 : decode cX11_wed 78 = .ok (.goto 4, 3) := by decide +kernel
theorem dX11_wed_81 : decode cX11_wed 81 = .ok (.iconst 0, 1) := by decide +kernel
theorem dX11_wed_82 : decode cX11_wed 82 = .ok (.ireturn, 1) := by decide +kernel
theorem dX11_wed_83 : decode cX11_wed 83 = .ok (.aload_n 0, 1) := by decide +kernel
theorem dX11_wed_84 : decode cX11_wed 84 = .ok (.getfield 19, 3) := by decide +kernel
theorem dX11_wed_87 : decode cX11_wed 87 = .ok (.getfield 116, 3) := by decide +kernel
theorem dX11_wed_90 : decode cX11_wed 90 = .ok (.getfield 162, 3) := by decide +kernel
theorem dX11_wed_93 : decode cX11_wed 93 = .ok (.iload_n 1, 1) := by decide +kernel
theorem dX11_wed_94 : decode cX11_wed 94 = .ok (.iaload, 1) := by decide +kernel
theorem dX11_wed_95 : decode cX11_wed 95 = .ok (.ifCond .ne 7, 3) := by decide +kernel
theorem dX11_wed_98 : decode cX11_wed 98 = .ok (.iload_n 1, 1) := by decide +kernel
theorem dX11_wed_99 : decode cX11_wed 99 = .ok (.goto 4, 3) := by decide +kernel
theorem dX11_wed_102 : decode cX11_wed 102 = .ok (.iload_n 3, 1) := by decide +kernel
theorem dX11_wed_103 : decode cX11_wed 103 = .ok (.istore 4, 2) := by decide +kernel
theorem dX11_wed_105 : decode cX11_wed 105 = .ok (.iload 4, 2) := by decide +kernel
theorem dX11_wed_107 : decode cX11_wed 107 = .ok (.iload_n 1, 1) := by decide +kernel
theorem dX11_wed_108 : decode cX11_wed 108 = .ok (.if_icmp .ne 7, 3) := by decide +kernel
theorem dX11_wed_111 : decode cX11_wed 111 = .ok (.iload_n 3, 1) := by decide +kernel
theorem dX11_wed_112 : decode cX11_wed 112 = .ok (.goto 4, 3) := by decide +kernel
theorem dX11_wed_115 : decode cX11_wed 115 = .ok (.iload_n 1, 1) := by decide +kernel
theorem dX11_wed_116 : decode cX11_wed 116 = .ok (.istore 5, 2) := by decide +kernel
theorem dX11_wed_118 : decode cX11_wed 118 = .ok (.aload_n 0, 1) := by decide +kernel
theorem dX11_wed_119 : decode cX11_wed 119 = .ok (.getfield 40, 3) := by decide +kernel
theorem dX11_wed_122 : decode cX11_wed 122 = .ok (.iload 4, 2) := by decide +kernel
theorem dX11_wed_124 : decode cX11_wed 124 = .ok (.invokevirtual 197, 3) := by decide +kernel
theorem dX11_wed_127 : decode cX11_wed 127 = .ok (.aload_n 0, 1) := by decide +kernel
theorem dX11_wed_128 : decode cX11_wed 128 = .ok (.getfield 40, 3) := by decide +kernel
theorem dX11_wed_131 : decode cX11_wed 131 = .ok (.iload 5, 2) := by decide +kernel
theorem dX11_wed_133 : decode cX11_wed 133 = .ok (.invokevirtual 197, 3) := by decide +kernel
theorem dX11_wed_136 : decode cX11_wed 136 = .ok (.isub, 1) := by decide +kernel
theorem dX11_wed_137 : decode cX11_wed 137 = .ok (.istore 6, 2) := by decide +kernel
theorem dX11_wed_139 : decode cX11_wed 139 = .ok (.iload_n 2, 1) := by decide +kernel
theorem dX11_wed_140 : decode cX11_wed 140 = .ok (.iconst 1, 1) := by decide +kernel
theorem dX11_wed_141 : decode cX11_wed 141 = .ok (.if_icmp .ne 16, 3) := by decide +kernel
theorem dX11_wed_144 : decode cX11_wed 144 = .ok (.iload 6, 2) := by decide +kernel
theorem dX11_wed_146 : decode cX11_wed 146 = .ok (.ifCond .lt 8, 3) := by decide +kernel
theorem dX11_wed_149 : decode cX11_wed 149 = .ok (.iload 4, 2) := by decide +kernel
theorem dX11_wed_151 : decode cX11_wed 151 = .ok (.goto 5, 3) := by decide +kernel
theorem dX11_wed_154 : decode cX11_wed 154 = .ok (.iload 5, 2) := by decide +kernel
theorem dX11_wed_156 : decode cX11_wed 156 = .ok (.ireturn, 1) := by decide +kernel
theorem dX11_wed_157 : decode cX11_wed 157 = .ok (.iload 6, 2) := by decide +kernel
theorem dX11_wed_159 : decode cX11_wed 159 = .ok (.invokestatic 200, 3) := by decide +kernel
theorem dX11_wed_162 : decode cX11_wed 162 = .ok (.ireturn, 1) := by decide +kernel
theorem dX11_partnerOf_0 : decode cX11_partnerOf 0 = .ok (.aload_n 0, 1) := by decide +kernel
theorem dX11_partnerOf_1 : decode cX11_partnerOf 1 = .ok (.iload_n 1, 1) := by decide +kernel
theorem dX11_partnerOf_2 : decode cX11_partnerOf 2 = .ok (.invokevirtual 242, 3) := by decide +kernel
theorem dX11_partnerOf_5 : decode cX11_partnerOf 5 = .ok (.istore_n 2, 1) := by decide +kernel
theorem dX11_partnerOf_6 : decode cX11_partnerOf 6 = .ok (.iconst 0, 1) := by decide +kernel
theorem dX11_partnerOf_7 : decode cX11_partnerOf 7 = .ok (.istore_n 3, 1) := by decide +kernel
theorem dX11_partnerOf_8 : decode cX11_partnerOf 8 = .ok (.iload_n 3, 1) := by decide +kernel
theorem dX11_partnerOf_9 : decode cX11_partnerOf 9 = .ok (.aload_n 0, 1) := by decide +kernel
theorem dX11_partnerOf_10 : decode cX11_partnerOf 10 = .ok (.getfield 19, 3) := by decide +kernel
theorem dX11_partnerOf_13 : decode cX11_partnerOf 13 = .ok (.getfield 116, 3) := by decide +kernel
theorem dX11_partnerOf_16 : decode cX11_partnerOf 16 = .ok (.getfield 245, 3) := by decide +kernel
theorem dX11_partnerOf_19 : decode cX11_partnerOf 19 = .ok (.if_icmp .ge 47, 3) := by decide +kernel
theorem dX11_partnerOf_22 : decode cX11_partnerOf 22 = .ok (.aload_n 0, 1) := by decide +kernel
theorem dX11_partnerOf_23 : decode cX11_partnerOf 23 = .ok (.getfield 19, 3) := by decide +kernel
theorem dX11_partnerOf_26 : decode cX11_partnerOf 26 = .ok (.getfield 116, 3) := by decide +kernel
theorem dX11_partnerOf_29 : decode cX11_partnerOf 29 = .ok (.getfield 162, 3) := by decide +kernel
theorem dX11_partnerOf_32 : decode cX11_partnerOf 32 = .ok (.iload_n 3, 1) := by decide +kernel
theorem dX11_partnerOf_33 : decode cX11_partnerOf 33 = .ok (.iaload, 1) := by decide +kernel
theorem dX11_partnerOf_34 : decode cX11_partnerOf 34 = .ok (.aload_n 0, 1) := by decide +kernel
theorem dX11_partnerOf_35 : decode cX11_partnerOf 35 = .ok (.getfield 19, 3) := by decide +kernel
theorem dX11_partnerOf_38 : decode cX11_partnerOf 38 = .ok (.getfield 116, 3) := by decide +kernel
theorem dX11_partnerOf_41 : decode cX11_partnerOf 41 = .ok (.getfield 162, 3) := by decide +kernel
theorem dX11_partnerOf_44 : decode cX11_partnerOf 44 = .ok (.iload_n 1, 1) := by decide +kernel
theorem dX11_partnerOf_45 : decode cX11_partnerOf 45 = .ok (.iaload, 1) := by decide +kernel
theorem dX11_partnerOf_46 : decode cX11_partnerOf 46 = .ok (.if_icmp .eq 14, 3) := by decide +kernel
theorem dX11_partnerOf_49 : decode cX11_partnerOf 49 = .ok (.aload_n 0, 1) := by decide +kernel
theorem dX11_partnerOf_50 : decode cX11_partnerOf 50 = .ok (.iload_n 3, 1) := by decide +kernel
theorem dX11_partnerOf_51 : decode cX11_partnerOf 51 = .ok (.invokevirtual 242, 3) := by decide +kernel
theorem dX11_partnerOf_54 : decode cX11_partnerOf 54 = .ok (.iload_n 2, 1) := by decide +kernel
theorem dX11_partnerOf_55 : decode cX11_partnerOf 55 = .ok (.if_icmp .ne 5, 3) := by decide +kernel
theorem dX11_partnerOf_58 : decode cX11_partnerOf 58 = .ok (.iload_n 3, 1) := by decide +kernel
theorem dX11_partnerOf_59 : decode cX11_partnerOf 59 = .ok (.ireturn, 1) := by decide +kernel
theorem dX11_partnerOf_60 : decode cX11_partnerOf 60 = .ok (.iinc 3 1, 3) := by decide +kernel
theorem dX11_partnerOf_63 : decode cX11_partnerOf 63 = .ok (.goto (-55), 3) := by decide +kernel
theorem dX11_partnerOf_66 : decode cX11_partnerOf 66 = .ok (.iconst (-1), 1) := by decide +kernel
theorem dX11_partnerOf_67 : decode cX11_partnerOf 67 = .ok (.ireturn, 1) := by decide +kernel
theorem dX11_betterOnes_0 : decode cX11_betterOnes 0 = .ok (.aload_n 0, 1) := by decide +kernel
theorem dX11_betterOnes_1 : decode cX11_betterOnes 1 = .ok (.getfield 40, 3) := by decide +kernel
theorem dX11_betterOnes_4 : decode cX11_betterOnes 4 = .ok (.iload_n 1, 1) := by decide +kernel
theorem dX11_betterOnes_5 : decode cX11_betterOnes 5 = .ok (.invokevirtual 197, 3) := by decide +kernel
theorem dX11_betterOnes_8 : decode cX11_betterOnes 8 = .ok (.istore_n 2, 1) := by decide +kernel
theorem dX11_betterOnes_9 : decode cX11_betterOnes 9 = .ok (.iconst 0, 1) := by decide +kernel
theorem dX11_betterOnes_10 : decode cX11_betterOnes 10 = .ok (.istore_n 3, 1) := by decide +kernel
theorem dX11_betterOnes_11 : decode cX11_betterOnes 11 = .ok (.iconst 0, 1) := by decide +kernel
theorem dX11_betterOnes_12 : decode cX11_betterOnes 12 = .ok (.istore 4, 2) := by decide +kernel
theorem dX11_betterOnes_14 : decode cX11_betterOnes 14 = .ok (.iload 4, 2) := by decide +kernel
theorem dX11_betterOnes_16 : decode cX11_betterOnes 16 = .ok (.aload_n 0, 1) := by decide +kernel
theorem dX11_betterOnes_17 : decode cX11_betterOnes 17 = .ok (.getfield 19, 3) := by decide +kernel
theorem dX11_betterOnes_20 : decode cX11_betterOnes 20 = .ok (.getfield 116, 3) := by decide +kernel
theorem dX11_betterOnes_23 : decode cX11_betterOnes 23 = .ok (.getfield 245, 3) := by decide +kernel
theorem dX11_betterOnes_26 : decode cX11_betterOnes 26 = .ok (.if_icmp .ge 69, 3) := by decide +kernel
theorem dX11_betterOnes_29 : decode cX11_betterOnes 29 = .ok (.aload_n 0, 1) := by decide +kernel
theorem dX11_betterOnes_30 : decode cX11_betterOnes 30 = .ok (.getfield 40, 3) := by decide +kernel
theorem dX11_betterOnes_33 : decode cX11_betterOnes 33 = .ok (.iload 4, 2) := by decide +kernel
theorem dX11_betterOnes_35 : decode cX11_betterOnes 35 = .ok (.invokevirtual 197, 3) := by decide +kernel
theorem dX11_betterOnes_38 : decode cX11_betterOnes 38 = .ok (.istore 5, 2) := by decide +kernel
theorem dX11_betterOnes_40 : decode cX11_betterOnes 40 = .ok (.aload_n 0, 1) := by decide +kernel
theorem dX11_betterOnes_41 : decode cX11_betterOnes 41 = .ok (.getfield 19, 3) := by decide +kernel
theorem dX11_betterOnes_44 : decode cX11_betterOnes 44 = .ok (.getfield 116, 3) := by decide +kernel
theorem dX11_betterOnes_47 : decode cX11_betterOnes 47 = .ok (.getfield 162, 3) := by decide +kernel
theorem dX11_betterOnes_50 : decode cX11_betterOnes 50 = .ok (.iload 4, 2) := by decide +kernel
theorem dX11_betterOnes_52 : decode cX11_betterOnes 52 = .ok (.iaload, 1) := by decide +kernel
theorem dX11_betterOnes_53 : decode cX11_betterOnes 53 = .ok (.aload_n 0, 1) := by decide +kernel
theorem dX11_betterOnes_54 : decode cX11_betterOnes 54 = .ok (.getfield 19, 3) := by decide +kernel
theorem dX11_betterOnes_57 : decode cX11_betterOnes 57 = .ok (.getfield 116, 3) := by decide +kernel
theorem dX11_betterOnes_60 : decode cX11_betterOnes 60 = .ok (.getfield 162, 3) := by decide +kernel
theorem dX11_betterOnes_63 : decode cX11_betterOnes 63 = .ok (.iload_n 1, 1) := by decide +kernel
theorem dX11_betterOnes_64 : decode cX11_betterOnes 64 = .ok (.iaload, 1) := by decide +kernel
theorem dX11_betterOnes_65 : decode cX11_betterOnes 65 = .ok (.if_icmp .ne 24, 3) := by decide +kernel
theorem dX11_betterOnes_68 : decode cX11_betterOnes 68 = .ok (.iload 5, 2) := by decide +kernel
theorem dX11_betterOnes_70 : decode cX11_betterOnes 70 = .ok (.iload_n 2, 1) := by decide +kernel
theorem dX11_betterOnes_71 : decode cX11_betterOnes 71 = .ok (.if_icmp .gt 15, 3) := by decide +kernel
theorem dX11_betterOnes_74 : decode cX11_betterOnes 74 = .ok (.iload 5, 2) := by decide +kernel
theorem dX11_betterOnes_76 : decode cX11_betterOnes 76 = .ok (.iload_n 2, 1) := by decide +kernel
theorem dX11_betterOnes_77 : decode cX11_betterOnes 77 = .ok (.if_icmp .ne 12, 3) := by decide +kernel
theorem dX11_betterOnes_80 : decode cX11_betterOnes 80 = .ok (.iload 4, 2) := by decide +kernel
theorem dX11_betterOnes_82 : decode cX11_betterOnes 82 = .ok (.iload_n 1, 1) := by decide +kernel
theorem dX11_betterOnes_83 : decode cX11_betterOnes 83 = .ok (.if_icmp .ge 6, 3) := by decide +kernel
theorem dX11_betterOnes_86 : decode cX11_betterOnes 86 = .ok (.iinc 3 1, 3) := by decide +kernel
theorem dX11_betterOnes_89 : decode cX11_betterOnes 89 = .ok (.iinc 4 1, 3) := by decide +kernel
theorem dX11_betterOnes_92 : decode cX11_betterOnes 92 = .ok (.goto (-78), 3) := by decide +kernel
theorem dX11_betterOnes_95 : decode cX11_betterOnes 95 = .ok (.iload_n 3, 1) := by decide +kernel
theorem dX11_betterOnes_96 : decode cX11_betterOnes 96 = .ok (.ireturn, 1) := by decide +kernel
theorem dX11_voter_0 : decode cX11_voter 0 = .ok (.aload_n 0, 1) := by decide +kernel
theorem dX11_voter_1 : decode cX11_voter 1 = .ok (.getfield 12, 3) := by decide +kernel
theorem dX11_voter_4 : decode cX11_voter 4 = .ok (.aload_n 0, 1) := by decide +kernel
theorem dX11_voter_5 : decode cX11_voter 5 = .ok (.getfield 19, 3) := by decide +kernel
theorem dX11_voter_8 : decode cX11_voter 8 = .ok (.getfield 133, 3) := by decide +kernel
theorem dX11_voter_11 : decode cX11_voter 11 = .ok (.invokevirtual 136, 3) := by decide +kernel
theorem dX11_voter_14 : decode cX11_voter 14 = .ok (.istore_n 3, 1) := by decide +kernel
theorem dX11_voter_15 : decode cX11_voter 15 = .ok (.iload_n 3, 1) := by decide +kernel
theorem dX11_voter_16 : decode cX11_voter 16 = .ok (.iconst (-1), 1) := by decide +kernel
theorem dX11_voter_17 : decode cX11_voter 17 = .ok (.if_icmp .eq 25, 3) := by decide +kernel
theorem dX11_voter_20 : decode cX11_voter 20 = .ok (.iload_n 1, 1) := by decide +kernel
theorem dX11_voter_21 : decode cX11_voter 21 = .ok (.iconst 1, 1) := by decide +kernel
theorem dX11_voter_22 : decode cX11_voter 22 = .ok (.if_icmp .lt 20, 3) := by decide +kernel
theorem dX11_voter_25 : decode cX11_voter 25 = .ok (.iload_n 1, 1) := by decide +kernel
theorem dX11_voter_26 : decode cX11_voter 26 = .ok (.bipush 9, 2) := by decide +kernel
theorem dX11_voter_28 : decode cX11_voter 28 = .ok (.if_icmp .gt 14, 3) := by decide +kernel
theorem dX11_voter_31 : decode cX11_voter 31 = .ok (.iload_n 2, 1) := by decide +kernel
theorem dX11_voter_32 : decode cX11_voter 32 = .ok (.ifCond .lt 10, 3) := by decide +kernel
theorem dX11_voter_35 : decode cX11_voter 35 = .ok (.iload_n 2, 1) := by decide +kernel
theorem dX11_voter_36 : decode cX11_voter 36 = .ok (.sipush 999, 3) := by decide +kernel
theorem dX11_voter_39 : decode cX11_voter 39 = .ok (.if_icmp .le 5, 3) := by decide +kernel
theorem dX11_voter_42 : decode cX11_voter 42 = .ok (.iconst (-1), 1) := by decide +kernel
theorem dX11_voter_43 : decode cX11_voter 43 = .ok (.ireturn, 1) := by decide +kernel
theorem dX11_voter_44 : decode cX11_voter 44 = .ok (.aload_n 0, 1) := by decide +kernel
theorem dX11_voter_45 : decode cX11_voter 45 = .ok (.getfield 19, 3) := by decide +kernel
theorem dX11_voter_48 : decode cX11_voter 48 = .ok (.iload_n 3, 1) := by decide +kernel
theorem dX11_voter_49 : decode cX11_voter 49 = .ok (.iload_n 1, 1) := by decide +kernel
theorem dX11_voter_50 : decode cX11_voter 50 = .ok (.iload_n 2, 1) := by decide +kernel
theorem dX11_voter_51 : decode cX11_voter 51 = .ok (.invokevirtual 248, 3) := by decide +kernel
theorem dX11_voter_54 : decode cX11_voter 54 = .ok (.ireturn, 1) := by decide +kernel
theorem dX11_over_0 : decode cX11_over 0 = .ok (.aload_n 0, 1) := by decide +kernel
theorem dX11_over_1 : decode cX11_over 1 = .ok (.iload_n 1, 1) := by decide +kernel
theorem dX11_over_2 : decode cX11_over 2 = .ok (.iload_n 2, 1) := by decide +kernel
theorem dX11_over_3 : decode cX11_over 3 = .ok (.invokevirtual 252, 3) := by decide +kernel
theorem dX11_over_6 : decode cX11_over 6 = .ok (.ifCond .ne 5, 3) := by decide +kernel
theorem dX11_over_9 : decode cX11_over 9 = .ok (.iconst (-1), 1) := by decide +kernel
theorem dX11_over_10 : decode cX11_over 10 = .ok (.ireturn, 1) := by decide +kernel
theorem dX11_over_11 : decode cX11_over 11 = .ok (.aload_n 0, 1) := by decide +kernel
theorem dX11_over_12 : decode cX11_over 12 = .ok (.getfield 61, 3) := by decide +kernel
theorem dX11_over_15 : decode cX11_over 15 = .ok (.aload_n 0, 1) := by decide +kernel
theorem dX11_over_16 : decode cX11_over 16 = .ok (.getfield 19, 3) := by decide +kernel
theorem dX11_over_19 : decode cX11_over 19 = .ok (.invokevirtual 256, 3) := by decide +kernel
theorem dX11_over_22 : decode cX11_over 22 = .ok (.aload_n 0, 1) := by decide +kernel
theorem dX11_over_23 : decode cX11_over 23 = .ok (.getfield 61, 3) := by decide +kernel
theorem dX11_over_26 : decode cX11_over 26 = .ok (.iload_n 1, 1) := by decide +kernel
theorem dX11_over_27 : decode cX11_over 27 = .ok (.iload_n 2, 1) := by decide +kernel
theorem dX11_over_28 : decode cX11_over 28 = .ok (.invokevirtual 258, 3) := by decide +kernel
theorem dX11_over_31 : decode cX11_over 31 = .ok (.ireturn, 1) := by decide +kernel
theorem dX11_areTwoLetters_0 : decode cX11_areTwoLetters 0 = .ok (.iload_n 1, 1) := by decide +kernel
theorem dX11_areTwoLetters_1 : decode cX11_areTwoLetters 1 = .ok (.ifCond .lt 38, 3) := by decide +kernel
theorem dX11_areTwoLetters_4 : decode cX11_areTwoLetters 4 = .ok (.iload_n 1, 1) := by decide +kernel
theorem dX11_areTwoLetters_5 : decode cX11_areTwoLetters 5 = .ok (.aload_n 0, 1) := by decide +kernel
theorem dX11_areTwoLetters_6 : decode cX11_areTwoLetters 6 = .ok (.getfield 19, 3) := by decide +kernel
theorem dX11_areTwoLetters_9 : decode cX11_areTwoLetters 9 = .ok (.getfield 133, 3) := by decide +kernel
theorem dX11_areTwoLetters_12 : decode cX11_areTwoLetters 12 = .ok (.if_icmp .ge 27, 3) := by decide +kernel
theorem dX11_areTwoLetters_15 : decode cX11_areTwoLetters 15 = .ok (.iload_n 2, 1) := by decide +kernel
theorem dX11_areTwoLetters_16 : decode cX11_areTwoLetters 16 = .ok (.ifCond .lt 23, 3) := by decide +kernel
theorem dX11_areTwoLetters_19 : decode cX11_areTwoLetters 19 = .ok (.iload_n 2, 1) := by decide +kernel
theorem dX11_areTwoLetters_20 : decode cX11_areTwoLetters 20 = .ok (.aload_n 0, 1) := by decide +kernel
theorem dX11_areTwoLetters_21 : decode cX11_areTwoLetters 21 = .ok (.getfield 19, 3) := by decide +kernel
theorem dX11_areTwoLetters_24 : decode cX11_areTwoLetters 24 = .ok (.getfield 133, 3) := by decide +kernel
theorem dX11_areTwoLetters_27 : decode cX11_areTwoLetters 27 = .ok (.if_icmp .ge 12, 3) := by decide +kernel
theorem dX11_areTwoLetters_30 : decode cX11_areTwoLetters 30 = .ok (.iload_n 1, 1) := by decide +kernel
theorem dX11_areTwoLetters_31 : decode cX11_areTwoLetters 31 = .ok (.iload_n 2, 1) := by decide +kernel
theorem dX11_areTwoLetters_32 : decode cX11_areTwoLetters 32 = .ok (.if_icmp .eq 7, 3) := by decide +kernel
theorem dX11_areTwoLetters_35 : decode cX11_areTwoLetters 35 = .ok (.iconst 1, 1) := by decide +kernel
theorem dX11_areTwoLetters_36 : decode cX11_areTwoLetters 36 = .ok (.goto 4, 3) := by decide +kernel
theorem dX11_areTwoLetters_39 : decode cX11_areTwoLetters 39 = .ok (.iconst 0, 1) := by decide +kernel
theorem dX11_areTwoLetters_40 : decode cX11_areTwoLetters 40 = .ok (.ireturn, 1) := by decide +kernel
theorem dX11_vote_0 : decode cX11_vote 0 = .ok (.iload_n 1, 1) := by decide +kernel
theorem dX11_vote_1 : decode cX11_vote 1 = .ok (.ifCond .lt 23, 3) := by decide +kernel
theorem dX11_vote_4 : decode cX11_vote 4 = .ok (.iload_n 1, 1) := by decide +kernel
theorem dX11_vote_5 : decode cX11_vote 5 = .ok (.iconst 3, 1) := by decide +kernel
theorem dX11_vote_6 : decode cX11_vote 6 = .ok (.if_icmp .ge 18, 3) := by decide +kernel
theorem dX11_vote_9 : decode cX11_vote 9 = .ok (.iload_n 2, 1) := by decide +kernel
theorem dX11_vote_10 : decode cX11_vote 10 = .ok (.ifCond .lt 14, 3) := by decide +kernel
theorem dX11_vote_13 : decode cX11_vote 13 = .ok (.iload_n 2, 1) := by decide +kernel
theorem dX11_vote_14 : decode cX11_vote 14 = .ok (.aload_n 0, 1) := by decide +kernel
theorem dX11_vote_15 : decode cX11_vote 15 = .ok (.getfield 19, 3) := by decide +kernel
theorem dX11_vote_18 : decode cX11_vote 18 = .ok (.getfield 133, 3) := by decide +kernel
theorem dX11_vote_21 : decode cX11_vote 21 = .ok (.if_icmp .lt 5, 3) := by decide +kernel
theorem dX11_vote_24 : decode cX11_vote 24 = .ok (.iconst (-1), 1) := by decide +kernel
theorem dX11_vote_25 : decode cX11_vote 25 = .ok (.ireturn, 1) := by decide +kernel
theorem dX11_vote_26 : decode cX11_vote 26 = .ok (.aload_n 0, 1) := by decide +kernel
theorem dX11_vote_27 : decode cX11_vote 27 = .ok (.getfield 61, 3) := by decide +kernel
theorem dX11_vote_30 : decode cX11_vote 30 = .ok (.aload_n 0, 1) := by decide +kernel
theorem dX11_vote_31 : decode cX11_vote 31 = .ok (.getfield 19, 3) := by decide +kernel
theorem dX11_vote_34 : decode cX11_vote 34 = .ok (.iload_n 1, 1) := by decide +kernel
theorem dX11_vote_35 : decode cX11_vote 35 = .ok (.invokevirtual 261, 3) := by decide +kernel
theorem dX11_vote_38 : decode cX11_vote 38 = .ok (.aload_n 0, 1) := by decide +kernel
theorem dX11_vote_39 : decode cX11_vote 39 = .ok (.getfield 19, 3) := by decide +kernel
theorem dX11_vote_42 : decode cX11_vote 42 = .ok (.getfield 133, 3) := by decide +kernel
theorem dX11_vote_45 : decode cX11_vote 45 = .ok (.iload_n 2, 1) := by decide +kernel
theorem dX11_vote_46 : decode cX11_vote 46 = .ok (.invokestatic 265, 3) := by decide +kernel
theorem dX11_vote_49 : decode cX11_vote 49 = .ok (.ireturn, 1) := by decide +kernel
theorem dX11_circle_0 : decode cX11_circle 0 = .ok (.aload_n 0, 1) := by decide +kernel
theorem dX11_circle_1 : decode cX11_circle 1 = .ok (.getfield 61, 3) := by decide +kernel
theorem dX11_circle_4 : decode cX11_circle 4 = .ok (.aload_n 0, 1) := by decide +kernel
theorem dX11_circle_5 : decode cX11_circle 5 = .ok (.getfield 19, 3) := by decide +kernel
theorem dX11_circle_8 : decode cX11_circle 8 = .ok (.invokevirtual 256, 3) := by decide +kernel
theorem dX11_circle_11 : decode cX11_circle 11 = .ok (.aload_n 0, 1) := by decide +kernel
theorem dX11_circle_12 : decode cX11_circle 12 = .ok (.getfield 61, 3) := by decide +kernel
theorem dX11_circle_15 : decode cX11_circle 15 = .ok (.aload_n 0, 1) := by decide +kernel
theorem dX11_circle_16 : decode cX11_circle 16 = .ok (.getfield 19, 3) := by decide +kernel
theorem dX11_circle_19 : decode cX11_circle 19 = .ok (.getfield 133, 3) := by decide +kernel
theorem dX11_circle_22 : decode cX11_circle 22 = .ok (.invokevirtual 268, 3) := by decide +kernel
theorem dX11_circle_25 : decode cX11_circle 25 = .ok (.ireturn, 1) := by decide +kernel
theorem dX11_buy_0 : decode cX11_buy 0 = .ok (.aload_n 0, 1) := by decide +kernel
theorem dX11_buy_1 : decode cX11_buy 1 = .ok (.iload_n 1, 1) := by decide +kernel
theorem dX11_buy_2 : decode cX11_buy 2 = .ok (.iload_n 2, 1) := by decide +kernel
theorem dX11_buy_3 : decode cX11_buy 3 = .ok (.invokevirtual 252, 3) := by decide +kernel
theorem dX11_buy_6 : decode cX11_buy 6 = .ok (.ifCond .eq 23, 3) := by decide +kernel
theorem dX11_buy_9 : decode cX11_buy 9 = .ok (.iload_n 3, 1) := by decide +kernel
theorem dX11_buy_10 : decode cX11_buy 10 = .ok (.ifCond .lt 19, 3) := by decide +kernel
theorem dX11_buy_13 : decode cX11_buy 13 = .ok (.iload_n 3, 1) := by decide +kernel
theorem dX11_buy_14 : decode cX11_buy 14 = .ok (.iconst 3, 1) := by decide +kernel
theorem dX11_buy_15 : decode cX11_buy 15 = .ok (.if_icmp .ge 14, 3) := by decide +kernel
theorem dX11_buy_18 : decode cX11_buy 18 = .ok (.iload 4, 2) := by decide +kernel
theorem dX11_buy_20 : decode cX11_buy 20 = .ok (.ifCond .lt 9, 3) := by decide +kernel
theorem dX11_buy_23 : decode cX11_buy 23 = .ok (.iload 4, 2) := by decide +kernel
theorem dX11_buy_25 : decode cX11_buy 25 = .ok (.iconst 1, 1) := by decide +kernel
theorem dX11_buy_26 : decode cX11_buy 26 = .ok (.if_icmp .le 5, 3) := by decide +kernel
theorem dX11_buy_29 : decode cX11_buy 29 = .ok (.iconst (-1), 1) := by decide +kernel
theorem dX11_buy_30 : decode cX11_buy 30 = .ok (.ireturn, 1) := by decide +kernel
theorem dX11_buy_31 : decode cX11_buy 31 = .ok (.aload_n 0, 1) := by decide +kernel
theorem dX11_buy_32 : decode cX11_buy 32 = .ok (.getfield 61, 3) := by decide +kernel
theorem dX11_buy_35 : decode cX11_buy 35 = .ok (.aload_n 0, 1) := by decide +kernel
theorem dX11_buy_36 : decode cX11_buy 36 = .ok (.getfield 19, 3) := by decide +kernel
theorem dX11_buy_39 : decode cX11_buy 39 = .ok (.iload_n 1, 1) := by decide +kernel
theorem dX11_buy_40 : decode cX11_buy 40 = .ok (.iload_n 2, 1) := by decide +kernel
theorem dX11_buy_41 : decode cX11_buy 41 = .ok (.iload_n 3, 1) := by decide +kernel
theorem dX11_buy_42 : decode cX11_buy 42 = .ok (.invokevirtual 271, 3) := by decide +kernel
theorem dX11_buy_45 : decode cX11_buy 45 = .ok (.iload 4, 2) := by decide +kernel
theorem dX11_buy_47 : decode cX11_buy 47 = .ok (.ifCond .ne 13, 3) := by decide +kernel
theorem dX11_buy_50 : decode cX11_buy 50 = .ok (.aload_n 0, 1) := by decide +kernel
theorem dX11_buy_51 : decode cX11_buy 51 = .ok (.getfield 61, 3) := by decide +kernel
theorem dX11_buy_54 : decode cX11_buy 54 = .ok (.getfield 275, 3) := by decide +kernel
theorem dX11_buy_57 : decode cX11_buy 57 = .ok (.goto 10, 3) := by decide +kernel
theorem dX11_buy_60 : decode cX11_buy 60 = .ok (.aload_n 0, 1) := by decide +kernel
theorem dX11_buy_61 : decode cX11_buy 61 = .ok (.getfield 61, 3) := by decide +kernel
theorem dX11_buy_64 : decode cX11_buy 64 = .ok (.getfield 278, 3) := by decide +kernel
theorem dX11_buy_67 : decode cX11_buy 67 = .ok (.ireturn, 1) := by decide +kernel
theorem dX11_harm_0 : decode cX11_harm 0 = .ok (.aload_n 0, 1) := by decide +kernel
theorem dX11_harm_1 : decode cX11_harm 1 = .ok (.getfield 12, 3) := by decide +kernel
theorem dX11_harm_4 : decode cX11_harm 4 = .ok (.aload_n 0, 1) := by decide +kernel
theorem dX11_harm_5 : decode cX11_harm 5 = .ok (.getfield 19, 3) := by decide +kernel
theorem dX11_harm_8 : decode cX11_harm 8 = .ok (.getfield 133, 3) := by decide +kernel
theorem dX11_harm_11 : decode cX11_harm 11 = .ok (.invokevirtual 136, 3) := by decide +kernel
theorem dX11_harm_14 : decode cX11_harm 14 = .ok (.istore_n 1, 1) := by decide +kernel
theorem dX11_harm_15 : decode cX11_harm 15 = .ok (.iload_n 1, 1) := by decide +kernel
theorem dX11_harm_16 : decode cX11_harm 16 = .ok (.iconst (-1), 1) := by decide +kernel
theorem dX11_harm_17 : decode cX11_harm 17 = .ok (.if_icmp .ne 5, 3) := by decide +kernel
theorem dX11_harm_20 : decode cX11_harm 20 = .ok (.iconst (-1), 1) := by decide +kernel
theorem dX11_harm_21 : decode cX11_harm 21 = .ok (.ireturn, 1) := by decide +kernel
theorem dX11_harm_22 : decode cX11_harm 22 = .ok (.aload_n 0, 1) := by decide +kernel
theorem dX11_harm_23 : decode cX11_harm 23 = .ok (.getfield 68, 3) := by decide +kernel
theorem dX11_harm_26 : decode cX11_harm 26 = .ok (.aload_n 0, 1) := by decide +kernel
theorem dX11_harm_27 : decode cX11_harm 27 = .ok (.getfield 19, 3) := by decide +kernel
theorem dX11_harm_30 : decode cX11_harm 30 = .ok (.aload_n 0, 1) := by decide +kernel
theorem dX11_harm_31 : decode cX11_harm 31 = .ok (.getfield 40, 3) := by decide +kernel
theorem dX11_harm_34 : decode cX11_harm 34 = .ok (.invokevirtual 281, 3) := by decide +kernel
theorem dX11_harm_37 : decode cX11_harm 37 = .ok (.aload_n 0, 1) := by decide +kernel
theorem dX11_harm_38 : decode cX11_harm 38 = .ok (.getfield 68, 3) := by decide +kernel
theorem dX11_harm_41 : decode cX11_harm 41 = .ok (.aload_n 0, 1) := by decide +kernel
theorem dX11_harm_42 : decode cX11_harm 42 = .ok (.getfield 19, 3) := by decide +kernel
theorem dX11_harm_45 : decode cX11_harm 45 = .ok (.aload_n 0, 1) := by decide +kernel
theorem dX11_harm_46 : decode cX11_harm 46 = .ok (.getfield 40, 3) := by decide +kernel
theorem dX11_harm_49 : decode cX11_harm 49 = .ok (.iload_n 1, 1) := by decide +kernel
theorem dX11_harm_50 : decode cX11_harm 50 = .ok (.invokevirtual 285, 3) := by decide +kernel
theorem dX11_harm_53 : decode cX11_harm 53 = .ok (.ireturn, 1) := by decide +kernel
theorem dX11_least_0 : decode cX11_least 0 = .ok (.aload_n 0, 1) := by decide +kernel
theorem dX11_least_1 : decode cX11_least 1 = .ok (.getfield 19, 3) := by decide +kernel
theorem dX11_least_4 : decode cX11_least 4 = .ok (.getfield 133, 3) := by decide +kernel
theorem dX11_least_7 : decode cX11_least 7 = .ok (.bipush 6, 2) := by decide +kernel
theorem dX11_least_9 : decode cX11_least 9 = .ok (.if_icmp .gt 27, 3) := by decide +kernel
theorem dX11_least_12 : decode cX11_least 12 = .ok (.iload_n 1, 1) := by decide +kernel
theorem dX11_least_13 : decode cX11_least 13 = .ok (.ifCond .eq 25, 3) := by decide +kernel
theorem dX11_least_16 : decode cX11_least 16 = .ok (.iload_n 1, 1) := by decide +kernel
theorem dX11_least_17 : decode cX11_least 17 = .ok (.bipush 10, 2) := by decide +kernel
theorem dX11_least_19 : decode cX11_least 19 = .ok (.if_icmp .lt 17, 3) := by decide +kernel
theorem dX11_least_22 : decode cX11_least 22 = .ok (.iload_n 1, 1) := by decide +kernel
theorem dX11_least_23 : decode cX11_least 23 = .ok (.bipush 10, 2) := by decide +kernel
theorem dX11_least_25 : decode cX11_least 25 = .ok (.aload_n 0, 1) := by decide +kernel
theorem dX11_least_26 : decode cX11_least 26 = .ok (.getfield 19, 3) := by decide +kernel
theorem dX11_least_29 : decode cX11_least 29 = .ok (.getfield 133, 3) := by decide +kernel
theorem dX11_least_32 : decode cX11_least 32 = .ok (.iadd, 1) := by decide +kernel
theorem dX11_least_33 : decode cX11_least 33 = .ok (.if_icmp .lt 5, 3) := by decide +kernel
theorem dX11_least_36 : decode cX11_least 36 = .ok (.iconst (-1), 1) := by decide +kernel
theorem dX11_least_37 : decode cX11_least 37 = .ok (.ireturn, 1) := by decide +kernel
theorem dX11_least_38 : decode cX11_least 38 = .ok (.aload_n 0, 1) := by decide +kernel
theorem dX11_least_39 : decode cX11_least 39 = .ok (.getfield 68, 3) := by decide +kernel
theorem dX11_least_42 : decode cX11_least 42 = .ok (.aload_n 0, 1) := by decide +kernel
theorem dX11_least_43 : decode cX11_least 43 = .ok (.getfield 19, 3) := by decide +kernel
theorem dX11_least_46 : decode cX11_least 46 = .ok (.aload_n 0, 1) := by decide +kernel
theorem dX11_least_47 : decode cX11_least 47 = .ok (.getfield 40, 3) := by decide +kernel
theorem dX11_least_50 : decode cX11_least 50 = .ok (.invokevirtual 289, 3) := by decide +kernel
theorem dX11_least_53 : decode cX11_least 53 = .ok (.iload_n 1, 1) := by decide +kernel
theorem dX11_least_54 : decode cX11_least 54 = .ok (.ifCond .ne 13, 3) := by decide +kernel
theorem dX11_least_57 : decode cX11_least 57 = .ok (.aload_n 0, 1) := by decide +kernel
theorem dX11_least_58 : decode cX11_least 58 = .ok (.getfield 68, 3) := by decide +kernel
theorem dX11_least_61 : decode cX11_least 61 = .ok (.getfield 292, 3) := by decide +kernel
theorem dX11_least_64 : decode cX11_least 64 = .ok (.goto 24, 3) := by decide +kernel
theorem dX11_least_67 : decode cX11_least 67 = .ok (.aload_n 0, 1) := by decide +kernel
theorem dX11_least_68 : decode cX11_least 68 = .ok (.getfield 68, 3) := by decide +kernel
theorem dX11_least_71 : decode cX11_least 71 = .ok (.getfield 295, 3) := by decide +kernel
theorem dX11_least_74 : decode cX11_least 74 = .ok (.aload_n 0, 1) := by decide +kernel
theorem dX11_least_75 : decode cX11_least 75 = .ok (.getfield 19, 3) := by decide +kernel
theorem dX11_least_78 : decode cX11_least 78 = .ok (.getfield 133, 3) := by decide +kernel
theorem dX11_least_81 : decode cX11_least 81 = .ok (.iload_n 1, 1) := by decide +kernel
theorem dX11_least_82 : decode cX11_least 82 = .ok (.bipush 10, 2) := by decide +kernel
theorem dX11_least_84 : decode cX11_least 84 = .ok (.isub, 1) := by decide +kernel
theorem dX11_least_85 : decode cX11_least 85 = .ok (.invokestatic 265, 3) := by decide +kernel
theorem dX11_least_88 : decode cX11_least 88 = .ok (.ireturn, 1) := by decide +kernel
theorem dX11_anew_0 : decode cX11_anew 0 = .ok (.aload_n 0, 1) := by decide +kernel
theorem dX11_anew_1 : decode cX11_anew 1 = .ok (.getfield 12, 3) := by decide +kernel
theorem dX11_anew_4 : decode cX11_anew 4 = .ok (.aload_n 0, 1) := by decide +kernel
theorem dX11_anew_5 : decode cX11_anew 5 = .ok (.getfield 19, 3) := by decide +kernel
theorem dX11_anew_8 : decode cX11_anew 8 = .ok (.getfield 133, 3) := by decide +kernel
theorem dX11_anew_11 : decode cX11_anew 11 = .ok (.invokevirtual 136, 3) := by decide +kernel
theorem dX11_anew_14 : decode cX11_anew 14 = .ok (.istore_n 2, 1) := by decide +kernel
theorem dX11_anew_15 : decode cX11_anew 15 = .ok (.iload_n 2, 1) := by decide +kernel
theorem dX11_anew_16 : decode cX11_anew 16 = .ok (.iconst (-1), 1) := by decide +kernel
theorem dX11_anew_17 : decode cX11_anew 17 = .ok (.if_icmp .eq 12, 3) := by decide +kernel
theorem dX11_anew_20 : decode cX11_anew 20 = .ok (.iload_n 1, 1) := by decide +kernel
theorem dX11_anew_21 : decode cX11_anew 21 = .ok (.ifCond .lt 8, 3) := by decide +kernel
theorem dX11_anew_24 : decode cX11_anew 24 = .ok (.iload_n 1, 1) := by decide +kernel
theorem dX11_anew_25 : decode cX11_anew 25 = .ok (.iconst 1, 1) := by decide +kernel
theorem dX11_anew_26 : decode cX11_anew 26 = .ok (.if_icmp .le 5, 3) := by decide +kernel
theorem dX11_anew_29 : decode cX11_anew 29 = .ok (.iconst (-1), 1) := by decide +kernel
theorem dX11_anew_30 : decode cX11_anew 30 = .ok (.ireturn, 1) := by decide +kernel
theorem dX11_anew_31 : decode cX11_anew 31 = .ok (.aload_n 0, 1) := by decide +kernel
theorem dX11_anew_32 : decode cX11_anew 32 = .ok (.getfield 68, 3) := by decide +kernel
theorem dX11_anew_35 : decode cX11_anew 35 = .ok (.aload_n 0, 1) := by decide +kernel
theorem dX11_anew_36 : decode cX11_anew 36 = .ok (.getfield 19, 3) := by decide +kernel
theorem dX11_anew_39 : decode cX11_anew 39 = .ok (.aload_n 0, 1) := by decide +kernel
theorem dX11_anew_40 : decode cX11_anew 40 = .ok (.getfield 40, 3) := by decide +kernel
theorem dX11_anew_43 : decode cX11_anew 43 = .ok (.iload_n 2, 1) := by decide +kernel
theorem dX11_anew_44 : decode cX11_anew 44 = .ok (.invokevirtual 298, 3) := by decide +kernel
theorem dX11_anew_47 : decode cX11_anew 47 = .ok (.istore_n 3, 1) := by decide +kernel
theorem dX11_anew_48 : decode cX11_anew 48 = .ok (.iload_n 1, 1) := by decide +kernel
theorem dX11_anew_49 : decode cX11_anew 49 = .ok (.ifCond .ne 21, 3) := by decide +kernel
theorem dX11_anew_52 : decode cX11_anew 52 = .ok (.aload_n 0, 1) := by decide +kernel
theorem dX11_anew_53 : decode cX11_anew 53 = .ok (.getfield 19, 3) := by decide +kernel
theorem dX11_anew_56 : decode cX11_anew 56 = .ok (.getfield 116, 3) := by decide +kernel
theorem dX11_anew_59 : decode cX11_anew 59 = .ok (.getfield 245, 3) := by decide +kernel
theorem dX11_anew_62 : decode cX11_anew 62 = .ok (.iload_n 3, 1) := by decide +kernel
theorem dX11_anew_63 : decode cX11_anew 63 = .ok (.invokestatic 301, 3) := by decide +kernel
theorem dX11_anew_66 : decode cX11_anew 66 = .ok (.isub, 1) := by decide +kernel
theorem dX11_anew_67 : decode cX11_anew 67 = .ok (.goto 4, 3) := by decide +kernel
theorem dX11_anew_70 : decode cX11_anew 70 = .ok (.iload_n 3, 1) := by decide +kernel
theorem dX11_anew_71 : decode cX11_anew 71 = .ok (.ireturn, 1) := by decide +kernel
theorem dX11_years_0 : decode cX11_years 0 = .ok (.iload_n 1, 1) := by decide +kernel
theorem dX11_years_1 : decode cX11_years 1 = .ok (.iconst 1, 1) := by decide +kernel
theorem dX11_years_2 : decode cX11_years 2 = .ok (.if_icmp .lt 9, 3) := by decide +kernel
theorem dX11_years_5 : decode cX11_years 5 = .ok (.iload_n 1, 1) := by decide +kernel
theorem dX11_years_6 : decode cX11_years 6 = .ok (.bipush 60, 2) := by decide +kernel
theorem dX11_years_8 : decode cX11_years 8 = .ok (.if_icmp .le 5, 3) := by decide +kernel
theorem dX11_years_11 : decode cX11_years 11 = .ok (.iconst (-1), 1) := by decide +kernel
theorem dX11_years_12 : decode cX11_years 12 = .ok (.ireturn, 1) := by decide +kernel
theorem dX11_years_13 : decode cX11_years 13 = .ok (.iconst 0, 1) := by decide +kernel
theorem dX11_years_14 : decode cX11_years 14 = .ok (.istore_n 2, 1) := by decide +kernel
theorem dX11_years_15 : decode cX11_years 15 = .ok (.iload_n 2, 1) := by decide +kernel
theorem dX11_years_16 : decode cX11_years 16 = .ok (.iload_n 1, 1) := by decide +kernel
theorem dX11_years_17 : decode cX11_years 17 = .ok (.if_icmp .ge 13, 3) := by decide +kernel
theorem dX11_years_20 : decode cX11_years 20 = .ok (.aload_n 0, 1) := by decide +kernel
theorem dX11_years_21 : decode cX11_years 21 = .ok (.invokevirtual 306, 3) := by decide +kernel
theorem dX11_years_24 : decode cX11_years 24 = .ok (.iinc 2 1, 3) := by decide +kernel
theorem dX11_years_27 : decode cX11_years 27 = .ok (.goto (-12), 3) := by decide +kernel
theorem dX11_years_30 : decode cX11_years 30 = .ok (.aload_n 0, 1) := by decide +kernel
theorem dX11_years_31 : decode cX11_years 31 = .ok (.getfield 19, 3) := by decide +kernel
theorem dX11_years_34 : decode cX11_years 34 = .ok (.getfield 309, 3) := by decide +kernel
theorem dX11_years_37 : decode cX11_years 37 = .ok (.ireturn, 1) := by decide +kernel
theorem dX11_passYear_0 : decode cX11_passYear 0 = .ok (.aload_n 0, 1) := by decide +kernel
theorem dX11_passYear_1 : decode cX11_passYear 1 = .ok (.getfield 40, 3) := by decide +kernel
theorem dX11_passYear_4 : decode cX11_passYear 4 = .ok (.aload_n 0, 1) := by decide +kernel
theorem dX11_passYear_5 : decode cX11_passYear 5 = .ok (.getfield 19, 3) := by decide +kernel
theorem dX11_passYear_8 : decode cX11_passYear 8 = .ok (.invokevirtual 193, 3) := by decide +kernel
theorem dX11_passYear_11 : decode cX11_passYear 11 = .ok (.aload_n 0, 1) := by decide +kernel
theorem dX11_passYear_12 : decode cX11_passYear 12 = .ok (.getfield 40, 3) := by decide +kernel
theorem dX11_passYear_15 : decode cX11_passYear 15 = .ok (.aload_n 0, 1) := by decide +kernel
theorem dX11_passYear_16 : decode cX11_passYear 16 = .ok (.getfield 19, 3) := by decide +kernel
theorem dX11_passYear_19 : decode cX11_passYear 19 = .ok (.aload_n 0, 1) := by decide +kernel
theorem dX11_passYear_20 : decode cX11_passYear 20 = .ok (.getfield 19, 3) := by decide +kernel
theorem dX11_passYear_23 : decode cX11_passYear 23 = .ok (.getfield 140, 3) := by decide +kernel
theorem dX11_passYear_26 : decode cX11_passYear 26 = .ok (.invokevirtual 176, 3) := by decide +kernel
theorem dX11_passYear_29 : decode cX11_passYear 29 = .ok (.iconst 0, 1) := by decide +kernel
theorem dX11_passYear_30 : decode cX11_passYear 30 = .ok (.istore_n 1, 1) := by decide +kernel
theorem dX11_passYear_31 : decode cX11_passYear 31 = .ok (.iload_n 1, 1) := by decide +kernel
theorem dX11_passYear_32 : decode cX11_passYear 32 = .ok (.aload_n 0, 1) := by decide +kernel
theorem dX11_passYear_33 : decode cX11_passYear 33 = .ok (.getfield 19, 3) := by decide +kernel
theorem dX11_passYear_36 : decode cX11_passYear 36 = .ok (.getfield 116, 3) := by decide +kernel
theorem dX11_passYear_39 : decode cX11_passYear 39 = .ok (.getfield 245, 3) := by decide +kernel
theorem dX11_passYear_42 : decode cX11_passYear 42 = .ok (.if_icmp .ge 48, 3) := by decide +kernel
theorem dX11_passYear_45 : decode cX11_passYear 45 = .ok (.aload_n 0, 1) := by decide +kernel
theorem dX11_passYear_46 : decode cX11_passYear 46 = .ok (.getfield 19, 3) := by decide +kernel
theorem dX11_passYear_49 : decode cX11_passYear 49 = .ok (.getfield 116, 3) := by decide +kernel
theorem dX11_passYear_52 : decode cX11_passYear 52 = .ok (.getfield 168, 3) := by decide +kernel
theorem dX11_passYear_55 : decode cX11_passYear 55 = .ok (.iload_n 1, 1) := by decide +kernel
theorem dX11_passYear_56 : decode cX11_passYear 56 = .ok (.dup2, 1) := by decide +kernel
theorem dX11_passYear_57 : decode cX11_passYear 57 = .ok (.iaload, 1) := by decide +kernel
theorem dX11_passYear_58 : decode cX11_passYear 58 = .ok (.aload_n 0, 1) := by decide +kernel
theorem dX11_passYear_59 : decode cX11_passYear 59 = .ok (.getfield 40, 3) := by decide +kernel
theorem dX11_passYear_62 : decode cX11_passYear 62 = .ok (.iload_n 1, 1) := by decide +kernel
theorem dX11_passYear_63 : decode cX11_passYear 63 = .ok (.invokevirtual 197, 3) := by decide +kernel
theorem dX11_passYear_66 : decode cX11_passYear 66 = .ok (.iadd, 1) := by decide +kernel
theorem dX11_passYear_67 : decode cX11_passYear 67 = .ok (.iastore, 1) := by decide +kernel
theorem dX11_passYear_68 : decode cX11_passYear 68 = .ok (.aload_n 0, 1) := by decide +kernel
theorem dX11_passYear_69 : decode cX11_passYear 69 = .ok (.getfield 19, 3) := by decide +kernel
theorem dX11_passYear_72 : decode cX11_passYear 72 = .ok (.getfield 116, 3) := by decide +kernel
theorem dX11_passYear_75 : decode cX11_passYear 75 = .ok (.getfield 165, 3) := by decide +kernel
theorem dX11_passYear_78 : decode cX11_passYear 78 = .ok (.iload_n 1, 1) := by decide +kernel
theorem dX11_passYear_79 : decode cX11_passYear 79 = .ok (.dup2, 1) := by decide +kernel
theorem dX11_passYear_80 : decode cX11_passYear 80 = .ok (.iaload, 1) := by decide +kernel
theorem dX11_passYear_81 : decode cX11_passYear 81 = .ok (.iconst 1, 1) := by decide +kernel
theorem dX11_passYear_82 : decode cX11_passYear 82 = .ok (.iadd, 1) := by decide +kernel
theorem dX11_passYear_83 : decode cX11_passYear 83 = .ok (.iastore, 1) := by decide +kernel
theorem dX11_passYear_84 : decode cX11_passYear 84 = .ok (.iinc 1 1, 3) := by decide +kernel
theorem dX11_passYear_87 : decode cX11_passYear 87 = .ok (.goto (-56), 3) := by decide +kernel
theorem dX11_passYear_90 : decode cX11_passYear 90 = .ok (.iconst 0, 1) := by decide +kernel
theorem dX11_passYear_91 : decode cX11_passYear 91 = .ok (.istore_n 1, 1) := by decide +kernel
theorem dX11_passYear_92 : decode cX11_passYear 92 = .ok (.iload_n 1, 1) := by decide +kernel
theorem dX11_passYear_93 : decode cX11_passYear 93 = .ok (.aload_n 0, 1) := by decide +kernel
theorem dX11_passYear_94 : decode cX11_passYear 94 = .ok (.getfield 19, 3) := by decide +kernel
theorem dX11_passYear_97 : decode cX11_passYear 97 = .ok (.getfield 116, 3) := by decide +kernel
theorem dX11_passYear_100 : decode cX11_passYear 100 = .ok (.getfield 245, 3) := by decide +kernel
theorem dX11_passYear_103 : decode cX11_passYear 103 = .ok (.if_icmp .ge 31, 3) := by decide +kernel
theorem dX11_passYear_106 : decode cX11_passYear 106 = .ok (.aload_n 0, 1) := by decide +kernel
theorem dX11_passYear_107 : decode cX11_passYear 107 = .ok (.getfield 19, 3) := by decide +kernel
theorem dX11_passYear_110 : decode cX11_passYear 110 = .ok (.getfield 116, 3) := by decide +kernel
theorem dX11_passYear_113 : decode cX11_passYear 113 = .ok (.getfield 165, 3) := by decide +kernel
theorem dX11_passYear_116 : decode cX11_passYear 116 = .ok (.iload_n 1, 1) := by decide +kernel
theorem dX11_passYear_117 : decode cX11_passYear 117 = .ok (.iaload, 1) := by decide +kernel
theorem dX11_passYear_118 : decode cX11_passYear 118 = .ok (.bipush 99, 2) := by decide +kernel
theorem dX11_passYear_120 : decode cX11_passYear 120 = .ok (.if_icmp .le 8, 3) := by decide +kernel
theorem dX11_passYear_123 : decode cX11_passYear 123 = .ok (.aload_n 0, 1) := by decide +kernel
theorem dX11_passYear_124 : decode cX11_passYear 124 = .ok (.iload_n 1, 1) := by decide +kernel
theorem dX11_passYear_125 : decode cX11_passYear 125 = .ok (.invokevirtual 312, 3) := by decide +kernel
theorem dX11_passYear_128 : decode cX11_passYear 128 = .ok (.iinc 1 1, 3) := by decide +kernel
theorem dX11_passYear_131 : decode cX11_passYear 131 = .ok (.goto (-39), 3) := by decide +kernel
theorem dX11_passYear_134 : decode cX11_passYear 134 = .ok (.aload_n 0, 1) := by decide +kernel
theorem dX11_passYear_135 : decode cX11_passYear 135 = .ok (.getfield 19, 3) := by decide +kernel
theorem dX11_passYear_138 : decode cX11_passYear 138 = .ok (.dup, 1) := by decide +kernel
theorem dX11_passYear_139 : decode cX11_passYear 139 = .ok (.getfield 309, 3) := by decide +kernel
theorem dX11_passYear_142 : decode cX11_passYear 142 = .ok (.iconst 1, 1) := by decide +kernel
theorem dX11_passYear_143 : decode cX11_passYear 143 = .ok (.iadd, 1) := by decide +kernel
theorem dX11_passYear_144 : decode cX11_passYear 144 = .ok (.putfield 309, 3) := by decide +kernel
theorem dX11_passYear_147 : decode cX11_passYear 147 = .ok (.aload_n 0, 1) := by decide +kernel
theorem dX11_passYear_148 : decode cX11_passYear 148 = .ok (.getfield 19, 3) := by decide +kernel
theorem dX11_passYear_151 : decode cX11_passYear 151 = .ok (.getfield 309, 3) := by decide +kernel
theorem dX11_passYear_154 : decode cX11_passYear 154 = .ok (.bipush 10, 2) := by decide +kernel
theorem dX11_passYear_156 : decode cX11_passYear 156 = .ok (.irem, 1) := by decide +kernel
theorem dX11_passYear_157 : decode cX11_passYear 157 = .ok (.ifCond .ne 31, 3) := by decide +kernel
theorem dX11_passYear_160 : decode cX11_passYear 160 = .ok (.aload_n 0, 1) := by decide +kernel
theorem dX11_passYear_161 : decode cX11_passYear 161 = .ok (.getfield 19, 3) := by decide +kernel
theorem dX11_passYear_164 : decode cX11_passYear 164 = .ok (.aload_n 0, 1) := by decide +kernel
theorem dX11_passYear_165 : decode cX11_passYear 165 = .ok (.getfield 61, 3) := by decide +kernel
theorem dX11_passYear_168 : decode cX11_passYear 168 = .ok (.aload_n 0, 1) := by decide +kernel
theorem dX11_passYear_169 : decode cX11_passYear 169 = .ok (.getfield 19, 3) := by decide +kernel
theorem dX11_passYear_172 : decode cX11_passYear 172 = .ok (.aload_n 0, 1) := by decide +kernel
theorem dX11_passYear_173 : decode cX11_passYear 173 = .ok (.getfield 19, 3) := by decide +kernel
theorem dX11_passYear_176 : decode cX11_passYear 176 = .ok (.getfield 149, 3) := by decide +kernel
theorem dX11_passYear_179 : decode cX11_passYear 179 = .ok (.bipush 6, 2) := by decide +kernel
theorem dX11_passYear_181 : decode cX11_passYear 181 = .ok (.iaload, 1) := by decide +kernel
theorem dX11_passYear_182 : decode cX11_passYear 182 = .ok (.invokevirtual 261, 3) := by decide +kernel
theorem dX11_passYear_185 : decode cX11_passYear 185 = .ok (.putfield 140, 3) := by decide +kernel
theorem dX11_passYear_188 : decode cX11_passYear 188 = .ok (.return_, 1) := by decide +kernel
theorem dX11_beBornAnew_0 : decode cX11_beBornAnew 0 = .ok (.aload_n 0, 1) := by decide +kernel
theorem dX11_beBornAnew_1 : decode cX11_beBornAnew 1 = .ok (.getfield 19, 3) := by decide +kernel
theorem dX11_beBornAnew_4 : decode cX11_beBornAnew 4 = .ok (.getfield 116, 3) := by decide +kernel
theorem dX11_beBornAnew_7 : decode cX11_beBornAnew 7 = .ok (.getfield 165, 3) := by decide +kernel
theorem dX11_beBornAnew_10 : decode cX11_beBornAnew 10 = .ok (.iload_n 1, 1) := by decide +kernel
theorem dX11_beBornAnew_11 : decode cX11_beBornAnew 11 = .ok (.iconst 0, 1) := by decide +kernel
theorem dX11_beBornAnew_12 : decode cX11_beBornAnew 12 = .ok (.iastore, 1) := by decide +kernel
theorem dX11_beBornAnew_13 : decode cX11_beBornAnew 13 = .ok (.aload_n 0, 1) := by decide +kernel
theorem dX11_beBornAnew_14 : decode cX11_beBornAnew 14 = .ok (.getfield 19, 3) := by decide +kernel
theorem dX11_beBornAnew_17 : decode cX11_beBornAnew 17 = .ok (.getfield 220, 3) := by decide +kernel
theorem dX11_beBornAnew_20 : decode cX11_beBornAnew 20 = .ok (.ifCond .le 37, 3) := by decide +kernel
theorem dX11_beBornAnew_23 : decode cX11_beBornAnew 23 = .ok (.aload_n 0, 1) := by decide +kernel
theorem dX11_beBornAnew_24 : decode cX11_beBornAnew 24 = .ok (.getfield 19, 3) := by decide +kernel
theorem dX11_beBornAnew_27 : decode cX11_beBornAnew 27 = .ok (.getfield 116, 3) := by decide +kernel
theorem dX11_beBornAnew_30 : decode cX11_beBornAnew 30 = .ok (.getfield 129, 3) := by decide +kernel
theorem dX11_beBornAnew_33 : decode cX11_beBornAnew 33 = .ok (.iload_n 1, 1) := by decide +kernel
theorem dX11_beBornAnew_34 : decode cX11_beBornAnew 34 = .ok (.aload_n 0, 1) := by decide +kernel
theorem dX11_beBornAnew_35 : decode cX11_beBornAnew 35 = .ok (.getfield 19, 3) := by decide +kernel
theorem dX11_beBornAnew_38 : decode cX11_beBornAnew 38 = .ok (.getfield 223, 3) := by decide +kernel
theorem dX11_beBornAnew_41 : decode cX11_beBornAnew 41 = .ok (.aload_n 0, 1) := by decide +kernel
theorem dX11_beBornAnew_42 : decode cX11_beBornAnew 42 = .ok (.getfield 19, 3) := by decide +kernel
theorem dX11_beBornAnew_45 : decode cX11_beBornAnew 45 = .ok (.aload_n 0, 1) := by decide +kernel
theorem dX11_beBornAnew_46 : decode cX11_beBornAnew 46 = .ok (.getfield 19, 3) := by decide +kernel
theorem dX11_beBornAnew_49 : decode cX11_beBornAnew 49 = .ok (.getfield 220, 3) := by decide +kernel
theorem dX11_beBornAnew_52 : decode cX11_beBornAnew 52 = .ok (.invokevirtual 315, 3) := by decide +kernel
theorem dX11_beBornAnew_55 : decode cX11_beBornAnew 55 = .ok (.iaload, 1) := by decide +kernel
theorem dX11_beBornAnew_56 : decode cX11_beBornAnew 56 = .ok (.iastore, 1) := by decide +kernel
theorem dX11_beBornAnew_57 : decode cX11_beBornAnew 57 = .ok (.return_, 1) := by decide +kernel
theorem dX11_image_0 : decode cX11_image 0 = .ok (.iload_n 1, 1) := by decide +kernel
theorem dX11_image_1 : decode cX11_image 1 = .ok (.ifCond .eq 21, 3) := by decide +kernel
theorem dX11_image_4 : decode cX11_image 4 = .ok (.aload_n 0, 1) := by decide +kernel
theorem dX11_image_5 : decode cX11_image 5 = .ok (.getfield 23, 3) := by decide +kernel
theorem dX11_image_8 : decode cX11_image 8 = .ok (.aload_n 0, 1) := by decide +kernel
theorem dX11_image_9 : decode cX11_image 9 = .ok (.getfield 19, 3) := by decide +kernel
theorem dX11_image_12 : decode cX11_image 12 = .ok (.invokevirtual 318, 3) := by decide +kernel
theorem dX11_image_15 : decode cX11_image 15 = .ok (.aload_n 0, 1) := by decide +kernel
theorem dX11_image_16 : decode cX11_image 16 = .ok (.iconst 1, 1) := by decide +kernel
theorem dX11_image_17 : decode cX11_image 17 = .ok (.putfield 26, 3) := by decide +kernel
theorem dX11_image_20 : decode cX11_image 20 = .ok (.iconst 1, 1) := by decide +kernel
theorem dX11_image_21 : decode cX11_image 21 = .ok (.ireturn, 1) := by decide +kernel
theorem dX11_image_22 : decode cX11_image 22 = .ok (.aload_n 0, 1) := by decide +kernel
theorem dX11_image_23 : decode cX11_image 23 = .ok (.getfield 26, 3) := by decide +kernel
theorem dX11_image_26 : decode cX11_image 26 = .ok (.ifCond .ne 5, 3) := by decide +kernel
theorem dX11_image_29 : decode cX11_image 29 = .ok (.iconst 0, 1) := by decide +kernel
theorem dX11_image_30 : decode cX11_image 30 = .ok (.ireturn, 1) := by decide +kernel
theorem dX11_image_31 : decode cX11_image 31 = .ok (.aload_n 0, 1) := by decide +kernel
theorem dX11_image_32 : decode cX11_image 32 = .ok (.getfield 19, 3) := by decide +kernel
theorem dX11_image_35 : decode cX11_image 35 = .ok (.aload_n 0, 1) := by decide +kernel
theorem dX11_image_36 : decode cX11_image 36 = .ok (.getfield 23, 3) := by decide +kernel
theorem dX11_image_39 : decode cX11_image 39 = .ok (.invokevirtual 318, 3) := by decide +kernel
theorem dX11_image_42 : decode cX11_image 42 = .ok (.iconst 1, 1) := by decide +kernel
theorem dX11_image_43 : decode cX11_image 43 = .ok (.ireturn, 1) := by decide +kernel
theorem dX11_look_0 : decode cX11_look 0 = .ok (.iload_n 1, 1) := by decide +kernel
theorem dX11_look_1 : decode cX11_look 1 = .ok (.bipush 10, 2) := by decide +kernel
theorem dX11_look_3 : decode cX11_look 3 = .ok (.if_icmp .lt 39, 3) := by decide +kernel
theorem dX11_look_6 : decode cX11_look 6 = .ok (.iload_n 1, 1) := by decide +kernel
theorem dX11_look_7 : decode cX11_look 7 = .ok (.bipush 10, 2) := by decide +kernel
theorem dX11_look_9 : decode cX11_look 9 = .ok (.aload_n 0, 1) := by decide +kernel
theorem dX11_look_10 : decode cX11_look 10 = .ok (.getfield 19, 3) := by decide +kernel
theorem dX11_look_13 : decode cX11_look 13 = .ok (.getfield 133, 3) := by decide +kernel
theorem dX11_look_16 : decode cX11_look 16 = .ok (.iadd, 1) := by decide +kernel
theorem dX11_look_17 : decode cX11_look 17 = .ok (.if_icmp .ge 25, 3) := by decide +kernel
theorem dX11_look_20 : decode cX11_look 20 = .ok (.aload_n 0, 1) := by decide +kernel
theorem dX11_look_21 : decode cX11_look 21 = .ok (.getfield 19, 3) := by decide +kernel
theorem dX11_look_24 : decode cX11_look 24 = .ok (.getfield 140, 3) := by decide +kernel
theorem dX11_look_27 : decode cX11_look 27 = .ok (.aload_n 0, 1) := by decide +kernel
theorem dX11_look_28 : decode cX11_look 28 = .ok (.getfield 19, 3) := by decide +kernel
theorem dX11_look_31 : decode cX11_look 31 = .ok (.getfield 133, 3) := by decide +kernel
theorem dX11_look_34 : decode cX11_look 34 = .ok (.iload_n 1, 1) := by decide +kernel
theorem dX11_look_35 : decode cX11_look 35 = .ok (.bipush 10, 2) := by decide +kernel
theorem dX11_look_37 : decode cX11_look 37 = .ok (.isub, 1) := by decide +kernel
theorem dX11_look_38 : decode cX11_look 38 = .ok (.invokestatic 265, 3) := by decide +kernel
theorem dX11_look_41 : decode cX11_look 41 = .ok (.ireturn, 1) := by decide +kernel
theorem dX11_look_42 : decode cX11_look 42 = .ok (.iload_n 1, 1) := by decide +kernel
theorem dX11_look_43 : decode cX11_look 43 = .ok (.bipush 20, 2) := by decide +kernel
theorem dX11_look_45 : decode cX11_look 45 = .ok (.if_icmp .lt 22, 3) := by decide +kernel
theorem dX11_look_48 : decode cX11_look 48 = .ok (.iload_n 1, 1) := by decide +kernel
theorem dX11_look_49 : decode cX11_look 49 = .ok (.bipush 27, 2) := by decide +kernel
theorem dX11_look_51 : decode cX11_look 51 = .ok (.if_icmp .ge 16, 3) := by decide +kernel
theorem dX11_look_54 : decode cX11_look 54 = .ok (.aload_n 0, 1) := by decide +kernel
theorem dX11_look_55 : decode cX11_look 55 = .ok (.getfield 19, 3) := by decide +kernel
theorem dX11_look_58 : decode cX11_look 58 = .ok (.getfield 149, 3) := by decide +kernel
theorem dX11_look_61 : decode cX11_look 61 = .ok (.iload_n 1, 1) := by decide +kernel
theorem dX11_look_62 : decode cX11_look 62 = .ok (.bipush 20, 2) := by decide +kernel
theorem dX11_look_64 : decode cX11_look 64 = .ok (.isub, 1) := by decide +kernel
theorem dX11_look_65 : decode cX11_look 65 = .ok (.iaload, 1) := by decide +kernel
theorem dX11_look_66 : decode cX11_look 66 = .ok (.ireturn, 1) := by decide +kernel
theorem dX11_look_67 : decode cX11_look 67 = .ok (.iload_n 1, 1) := by decide +kernel
theorem dX11_look_68 : decode cX11_look 68 = .ok (.tableswitch 106 0 6 #[44, 52, 63, 71, 79, 90, 98], 44) := by decide +kernel
theorem dX11_look_112 : decode cX11_look 112 = .ok (.aload_n 0, 1) := by decide +kernel
theorem dX11_look_113 : decode cX11_look 113 = .ok (.getfield 19, 3) := by decide +kernel
theorem dX11_look_116 : decode cX11_look 116 = .ok (.getfield 133, 3) := by decide +kernel
theorem dX11_look_119 : decode cX11_look 119 = .ok (.ireturn, 1) := by decide +kernel
theorem dX11_look_120 : decode cX11_look 120 = .ok (.aload_n 0, 1) := by decide +kernel
theorem dX11_look_121 : decode cX11_look 121 = .ok (.getfield 19, 3) := by decide +kernel
theorem dX11_look_124 : decode cX11_look 124 = .ok (.getfield 116, 3) := by decide +kernel
theorem dX11_look_127 : decode cX11_look 127 = .ok (.getfield 245, 3) := by decide +kernel
theorem dX11_look_130 : decode cX11_look 130 = .ok (.ireturn, 1) := by decide +kernel
theorem dX11_look_131 : decode cX11_look 131 = .ok (.aload_n 0, 1) := by decide +kernel
theorem dX11_look_132 : decode cX11_look 132 = .ok (.getfield 19, 3) := by decide +kernel
theorem dX11_look_135 : decode cX11_look 135 = .ok (.getfield 220, 3) := by decide +kernel
theorem dX11_look_138 : decode cX11_look 138 = .ok (.ireturn, 1) := by decide +kernel
theorem dX11_look_139 : decode cX11_look 139 = .ok (.aload_n 0, 1) := by decide +kernel
theorem dX11_look_140 : decode cX11_look 140 = .ok (.getfield 19, 3) := by decide +kernel
theorem dX11_look_143 : decode cX11_look 143 = .ok (.getfield 320, 3) := by decide +kernel
theorem dX11_look_146 : decode cX11_look 146 = .ok (.ireturn, 1) := by decide +kernel
theorem dX11_look_147 : decode cX11_look 147 = .ok (.aload_n 0, 1) := by decide +kernel
theorem dX11_look_148 : decode cX11_look 148 = .ok (.getfield 19, 3) := by decide +kernel
theorem dX11_look_151 : decode cX11_look 151 = .ok (.getfield 90, 3) := by decide +kernel
theorem dX11_look_154 : decode cX11_look 154 = .ok (.getfield 103, 3) := by decide +kernel
theorem dX11_look_157 : decode cX11_look 157 = .ok (.ireturn, 1) := by decide +kernel
theorem dX11_look_158 : decode cX11_look 158 = .ok (.aload_n 0, 1) := by decide +kernel
theorem dX11_look_159 : decode cX11_look 159 = .ok (.getfield 19, 3) := by decide +kernel
theorem dX11_look_162 : decode cX11_look 162 = .ok (.getfield 309, 3) := by decide +kernel
theorem dX11_look_165 : decode cX11_look 165 = .ok (.ireturn, 1) := by decide +kernel
theorem dX11_look_166 : decode cX11_look 166 = .ok (.aload_n 0, 1) := by decide +kernel
theorem dX11_look_167 : decode cX11_look 167 = .ok (.getfield 19, 3) := by decide +kernel
theorem dX11_look_170 : decode cX11_look 170 = .ok (.getfield 72, 3) := by decide +kernel
theorem dX11_look_173 : decode cX11_look 173 = .ok (.ireturn, 1) := by decide +kernel
theorem dX11_look_174 : decode cX11_look 174 = .ok (.iconst (-1), 1) := by decide +kernel
theorem dX11_look_175 : decode cX11_look 175 = .ok (.ireturn, 1) := by decide +kernel
theorem dX12_init_0 : decode cX12_init 0 = .ok (.aload_n 0, 1) := by decide +kernel
theorem dX12_init_1 : decode cX12_init 1 = .ok (.invokespecial 1, 3) := by decide +kernel
theorem dX12_init_4 : decode cX12_init 4 = .ok (.aload_n 0, 1) := by decide +kernel
theorem dX12_init_5 : decode cX12_init 5 = .ok (.bipush 51, 2) := by decide +kernel
theorem dX12_init_7 : decode cX12_init 7 = .ok (.newarray .int, 2) := by decide +kernel
theorem dX12_init_9 : decode cX12_init 9 = .ok (.putfield 7, 3) := by decide +kernel
theorem dX12_init_12 : decode cX12_init 12 = .ok (.aload_n 0, 1) := by decide +kernel
theorem dX12_init_13 : decode cX12_init 13 = .ok (.sipush 306, 3) := by decide +kernel
theorem dX12_init_16 : decode cX12_init 16 = .ok (.newarray .int, 2) := by decide +kernel
theorem dX12_init_18 : decode cX12_init 18 = .ok (.putfield 13, 3) := by decide +kernel
theorem dX12_init_21 : decode cX12_init 21 = .ok (.aload_n 0, 1) := by decide +kernel
theorem dX12_init_22 : decode cX12_init 22 = .ok (.bipush 20, 2) := by decide +kernel
theorem dX12_init_24 : decode cX12_init 24 = .ok (.newarray .int, 2) := by decide +kernel
theorem dX12_init_26 : decode cX12_init 26 = .ok (.putfield 16, 3) := by decide +kernel
theorem dX12_init_29 : decode cX12_init 29 = .ok (.aload_n 0, 1) := by decide +kernel
theorem dX12_init_30 : decode cX12_init 30 = .ok (.bipush 20, 2) := by decide +kernel
theorem dX12_init_32 : decode cX12_init 32 = .ok (.newarray .int, 2) := by decide +kernel
theorem dX12_init_34 : decode cX12_init 34 = .ok (.putfield 19, 3) := by decide +kernel
theorem dX12_init_37 : decode cX12_init 37 = .ok (.aload_n 0, 1) := by decide +kernel
theorem dX12_init_38 : decode cX12_init 38 = .ok (.bipush 20, 2) := by decide +kernel
theorem dX12_init_40 : decode cX12_init 40 = .ok (.newarray .int, 2) := by decide +kernel
theorem dX12_init_42 : decode cX12_init 42 = .ok (.putfield 22, 3) := by decide +kernel
theorem dX12_init_45 : decode cX12_init 45 = .ok (.aload_n 0, 1) := by decide +kernel
theorem dX12_init_46 : decode cX12_init 46 = .ok (.iconst 5, 1) := by decide +kernel
theorem dX12_init_47 : decode cX12_init 47 = .ok (.putfield 25, 3) := by decide +kernel
theorem dX12_init_50 : decode cX12_init 50 = .ok (.aload_n 0, 1) := by decide +kernel
theorem dX12_init_51 : decode cX12_init 51 = .ok (.sipush 168, 3) := by decide +kernel
theorem dX12_init_54 : decode cX12_init 54 = .ok (.newarray .int, 2) := by decide +kernel
theorem dX12_init_56 : decode cX12_init 56 = .ok (.putfield 29, 3) := by decide +kernel
theorem dX12_init_59 : decode cX12_init 59 = .ok (.aload_n 0, 1) := by decide +kernel
theorem dX12_init_60 : decode cX12_init 60 = .ok (.bipush 7, 2) := by decide +kernel
theorem dX12_init_62 : decode cX12_init 62 = .ok (.newarray .int, 2) := by decide +kernel
theorem dX12_init_64 : decode cX12_init 64 = .ok (.dup, 1) := by decide +kernel
theorem dX12_init_65 : decode cX12_init 65 = .ok (.iconst 0, 1) := by decide +kernel
theorem dX12_init_66 : decode cX12_init 66 = .ok (.iconst 0, 1) := by decide +kernel
theorem dX12_init_67 : decode cX12_init 67 = .ok (.iastore, 1) := by decide +kernel
theorem dX12_init_68 : decode cX12_init 68 = .ok (.dup, 1) := by decide +kernel
theorem dX12_init_69 : decode cX12_init 69 = .ok (.iconst 1, 1) := by decide +kernel
theorem dX12_init_70 : decode cX12_init 70 = .ok (.iconst 0, 1) := by decide +kernel
theorem dX12_init_71 : decode cX12_init 71 = .ok (.iastore, 1) := by decide +kernel
theorem dX12_init_72 : decode cX12_init 72 = .ok (.dup, 1) := by decide +kernel
theorem dX12_init_73 : decode cX12_init 73 = .ok (.iconst 2, 1) := by decide +kernel
theorem dX12_init_74 : decode cX12_init 74 = .ok (.iconst 1, 1) := by decide +kernel
theorem dX12_init_75 : decode cX12_init 75 = .ok (.iastore, 1) := by decide +kernel
theorem dX12_init_76 : decode cX12_init 76 = .ok (.dup, 1) := by decide +kernel
theorem dX12_init_77 : decode cX12_init 77 = .ok (.iconst 3, 1) := by decide +kernel
theorem dX12_init_78 : decode cX12_init 78 = .ok (.iconst 1, 1) := by decide +kernel
theorem dX12_init_79 : decode cX12_init 79 = .ok (.iastore, 1) := by decide +kernel
theorem dX12_init_80 : decode cX12_init 80 = .ok (.dup, 1) := by decide +kernel
theorem dX12_init_81 : decode cX12_init 81 = .ok (.iconst 4, 1) := by decide +kernel
theorem dX12_init_82 : decode cX12_init 82 = .ok (.iconst 1, 1) := by decide +kernel
theorem dX12_init_83 : decode cX12_init 83 = .ok (.iastore, 1) := by decide +kernel
theorem dX12_init_84 : decode cX12_init 84 = .ok (.dup, 1) := by decide +kernel
theorem dX12_init_85 : decode cX12_init 85 = .ok (.iconst 5, 1) := by decide +kernel
theorem dX12_init_86 : decode cX12_init 86 = .ok (.iconst 1, 1) := by decide +kernel
theorem dX12_init_87 : decode cX12_init 87 = .ok (.iastore, 1) := by decide +kernel
theorem dX12_init_88 : decode cX12_init 88 = .ok (.dup, 1) := by decide +kernel
theorem dX12_init_89 : decode cX12_init 89 = .ok (.bipush 6, 2) := by decide +kernel
theorem dX12_init_91 : decode cX12_init 91 = .ok (.iconst 0, 1) := by decide +kernel
theorem dX12_init_92 : decode cX12_init 92 = .ok (.iastore, 1) := by decide +kernel
theorem dX12_init_93 : decode cX12_init 93 = .ok (.putfield 32, 3) := by decide +kernel
theorem dX12_init_96 : decode cX12_init 96 = .ok (.aload_n 0, 1) := by decide +kernel
theorem dX12_init_97 : decode cX12_init 97 = .ok (.bipush 6, 2) := by decide +kernel
theorem dX12_init_99 : decode cX12_init 99 = .ok (.newarray .int, 2) := by decide +kernel
theorem dX12_init_101 : decode cX12_init 101 = .ok (.putfield 35, 3) := by decide +kernel
theorem dX12_init_104 : decode cX12_init 104 = .ok (.aload_n 0, 1) := by decide +kernel
theorem dX12_init_105 : decode cX12_init 105 = .ok (.bipush 6, 2) := by decide +kernel
theorem dX12_init_107 : decode cX12_init 107 = .ok (.newarray .int, 2) := by decide +kernel
theorem dX12_init_109 : decode cX12_init 109 = .ok (.putfield 38, 3) := by decide +kernel
theorem dX12_init_112 : decode cX12_init 112 = .ok (.aload_n 0, 1) := by decide +kernel
theorem dX12_init_113 : decode cX12_init 113 = .ok (.bipush 6, 2) := by decide +kernel
theorem dX12_init_115 : decode cX12_init 115 = .ok (.newarray .int, 2) := by decide +kernel
theorem dX12_init_117 : decode cX12_init 117 = .ok (.putfield 41, 3) := by decide +kernel
theorem dX12_init_120 : decode cX12_init 120 = .ok (.aload_n 0, 1) := by decide +kernel
theorem dX12_init_121 : decode cX12_init 121 = .ok (.bipush 6, 2) := by decide +kernel
theorem dX12_init_123 : decode cX12_init 123 = .ok (.newarray .int, 2) := by decide +kernel
theorem dX12_init_125 : decode cX12_init 125 = .ok (.putfield 44, 3) := by decide +kernel
theorem dX12_init_128 : decode cX12_init 128 = .ok (.aload_n 0, 1) := by decide +kernel
theorem dX12_init_129 : decode cX12_init 129 = .ok (.bipush 6, 2) := by decide +kernel
theorem dX12_init_131 : decode cX12_init 131 = .ok (.newarray .int, 2) := by decide +kernel
theorem dX12_init_133 : decode cX12_init 133 = .ok (.putfield 47, 3) := by decide +kernel
theorem dX12_init_136 : decode cX12_init 136 = .ok (.aload_n 0, 1) := by decide +kernel
theorem dX12_init_137 : decode cX12_init 137 = .ok (.bipush 6, 2) := by decide +kernel
theorem dX12_init_139 : decode cX12_init 139 = .ok (.newarray .int, 2) := by decide +kernel
theorem dX12_init_141 : decode cX12_init 141 = .ok (.putfield 50, 3) := by decide +kernel
theorem dX12_init_144 : decode cX12_init 144 = .ok (.aload_n 0, 1) := by decide +kernel
theorem dX12_init_145 : decode cX12_init 145 = .ok (.bipush 12, 2) := by decide +kernel
theorem dX12_init_147 : decode cX12_init 147 = .ok (.newarray .int, 2) := by decide +kernel
theorem dX12_init_149 : decode cX12_init 149 = .ok (.putfield 53, 3) := by decide +kernel
theorem dX12_init_152 : decode cX12_init 152 = .ok (.aload_n 0, 1) := by decide +kernel
theorem dX12_init_153 : decode cX12_init 153 = .ok (.bipush 12, 2) := by decide +kernel
theorem dX12_init_155 : decode cX12_init 155 = .ok (.newarray .int, 2) := by decide +kernel
theorem dX12_init_157 : decode cX12_init 157 = .ok (.putfield 56, 3) := by decide +kernel
theorem dX12_init_160 : decode cX12_init 160 = .ok (.aload_n 0, 1) := by decide +kernel
theorem dX12_init_161 : decode cX12_init 161 = .ok (.sipush 400, 3) := by decide +kernel
theorem dX12_init_164 : decode cX12_init 164 = .ok (.newarray .int, 2) := by decide +kernel
theorem dX12_init_166 : decode cX12_init 166 = .ok (.putfield 59, 3) := by decide +kernel
theorem dX12_init_169 : decode cX12_init 169 = .ok (.aload_n 0, 1) := by decide +kernel
theorem dX12_init_170 : decode cX12_init 170 = .ok (.bipush 81, 2) := by decide +kernel
theorem dX12_init_172 : decode cX12_init 172 = .ok (.newarray .int, 2) := by decide +kernel
theorem dX12_init_174 : decode cX12_init 174 = .ok (.dup, 1) := by decide +kernel
theorem dX12_init_175 : decode cX12_init 175 = .ok (.iconst 0, 1) := by decide +kernel
theorem dX12_init_176 : decode cX12_init 176 = .ok (.bipush 32, 2) := by decide +kernel
theorem dX12_init_178 : decode cX12_init 178 = .ok (.iastore, 1) := by decide +kernel
theorem dX12_init_179 : decode cX12_init 179 = .ok (.dup, 1) := by decide +kernel
theorem dX12_init_180 : decode cX12_init 180 = .ok (.iconst 1, 1) := by decide +kernel
theorem dX12_init_181 : decode cX12_init 181 = .ok (.bipush 109, 2) := by decide +kernel
theorem dX12_init_183 : decode cX12_init 183 = .ok (.iastore, 1) := by decide +kernel
theorem dX12_init_184 : decode cX12_init 184 = .ok (.dup, 1) := by decide +kernel
theorem dX12_init_185 : decode cX12_init 185 = .ok (.iconst 2, 1) := by decide +kernel
theorem dX12_init_186 : decode cX12_init 186 = .ok (.bipush 97, 2) := by decide +kernel
theorem dX12_init_188 : decode cX12_init 188 = .ok (.iastore, 1) := by decide +kernel
theorem dX12_init_189 : decode cX12_init 189 = .ok (.dup, 1) := by decide +kernel
theorem dX12_init_190 : decode cX12_init 190 = .ok (.iconst 3, 1) := by decide +kernel
theorem dX12_init_191 : decode cX12_init 191 = .ok (.bipush 121, 2) := by decide +kernel
theorem dX12_init_193 : decode cX12_init 193 = .ok (.iastore, 1) := by decide +kernel
theorem dX12_init_194 : decode cX12_init 194 = .ok (.dup, 1) := by decide +kernel
theorem dX12_init_195 : decode cX12_init 195 = .ok (.iconst 4, 1) := by decide +kernel
theorem dX12_init_196 : decode cX12_init 196 = .ok (.bipush 32, 2) := by decide +kernel
theorem dX12_init_198 : decode cX12_init 198 = .ok (.iastore, 1) := by decide +kernel
theorem dX12_init_199 : decode cX12_init 199 = .ok (.dup, 1) := by decide +kernel
theorem dX12_init_200 : decode cX12_init 200 = .ok (.iconst 5, 1) := by decide +kernel
theorem dX12_init_201 : decode cX12_init 201 = .ok (.bipush 98, 2) := by decide +kernel
theorem dX12_init_203 : decode cX12_init 203 = .ok (.iastore, 1) := by decide +kernel
theorem dX12_init_204 : decode cX12_init 204 = .ok (.dup, 1) := by decide +kernel
theorem dX12_init_205 : decode cX12_init 205 = .ok (.bipush 6, 2) := by decide +kernel
theorem dX12_init_207 : decode cX12_init 207 = .ok (.bipush 97, 2) := by decide +kernel
theorem dX12_init_209 : decode cX12_init 209 = .ok (.iastore, 1) := by decide +kernel
theorem dX12_init_210 : decode cX12_init 210 = .ok (.dup, 1) := by decide +kernel
theorem dX12_init_211 : decode cX12_init 211 = .ok (.bipush 7, 2) := by decide +kernel
theorem dX12_init_213 : decode cX12_init 213 = .ok (.bipush 114, 2) := by decide +kernel
theorem dX12_init_215 : decode cX12_init 215 = .ok (.iastore, 1) := by decide +kernel
theorem dX12_init_216 : decode cX12_init 216 = .ok (.dup, 1) := by decide +kernel
theorem dX12_init_217 : decode cX12_init 217 = .ok (.bipush 8, 2) := by decide +kernel
theorem dX12_init_219 : decode cX12_init 219 = .ok (.bipush 32, 2) := by decide +kernel
theorem dX12_init_221 : decode cX12_init 221 = .ok (.iastore, 1) := by decide +kernel
theorem dX12_init_222 : decode cX12_init 222 = .ok (.dup, 1) := by decide +kernel
theorem dX12_init_223 : decode cX12_init 223 = .ok (.bipush 9, 2) := by decide +kernel
theorem dX12_init_225 : decode cX12_init 225 = .ok (.bipush 119, 2) := by decide +kernel
theorem dX12_init_227 : decode cX12_init 227 = .ok (.iastore, 1) := by decide +kernel
theorem dX12_init_228 : decode cX12_init 228 = .ok (.dup, 1) := by decide +kernel
theorem dX12_init_229 : decode cX12_init 229 = .ok (.bipush 10, 2) := by decide +kernel
theorem dX12_init_231 : decode cX12_init 231 = .ok (.bipush 104, 2) := by decide +kernel
theorem dX12_init_233 : decode cX12_init 233 = .ok (.iastore, 1) := by decide +kernel
theorem dX12_init_234 : decode cX12_init 234 = .ok (.dup, 1) := by decide +kernel
theorem dX12_init_235 : decode cX12_init 235 = .ok (.bipush 11, 2) := by decide +kernel
theorem dX12_init_237 : decode cX12_init 237 = .ok (.bipush 101, 2) := by decide +kernel
theorem dX12_init_239 : decode cX12_init 239 = .ok (.iastore, 1) := by decide +kernel
theorem dX12_init_240 : decode cX12_init 240 = .ok (.dup, 1) := by decide +kernel
theorem dX12_init_241 : decode cX12_init 241 = .ok (.bipush 12, 2) := by decide +kernel
theorem dX12_init_243 : decode cX12_init 243 = .ok (.bipush 110, 2) := by decide +kernel
theorem dX12_init_245 : decode cX12_init 245 = .ok (.iastore, 1) := by decide +kernel
theorem dX12_init_246 : decode cX12_init 246 = .ok (.dup, 1) := by decide +kernel
theorem dX12_init_247 : decode cX12_init 247 = .ok (.bipush 13, 2) := by decide +kernel
theorem dX12_init_249 : decode cX12_init 249 = .ok (.bipush 32, 2) := by decide +kernel
theorem dX12_init_251 : decode cX12_init 251 = .ok (.iastore, 1) := by decide +kernel
theorem dX12_init_252 : decode cX12_init 252 = .ok (.dup, 1) := by decide +kernel
theorem dX12_init_253 : decode cX12_init 253 = .ok (.bipush 14, 2) := by decide +kernel
theorem dX12_init_255 : decode cX12_init 255 = .ok (.bipush 111, 2) := by decide +kernel
theorem dX12_init_257 : decode cX12_init 257 = .ok (.iastore, 1) := by decide +kernel
theorem dX12_init_258 : decode cX12_init 258 = .ok (.dup, 1) := by decide +kernel
theorem dX12_init_259 : decode cX12_init 259 = .ok (.bipush 15, 2) := by decide +kernel
theorem dX12_init_261 : decode cX12_init 261 = .ok (.bipush 114, 2) := by decide +kernel
theorem dX12_init_263 : decode cX12_init 263 = .ok (.iastore, 1) := by decide +kernel
theorem dX12_init_264 : decode cX12_init 264 = .ok (.dup, 1) := by decide +kernel
theorem dX12_init_265 : decode cX12_init 265 = .ok (.bipush 16, 2) := by decide +kernel
theorem dX12_init_267 : decode cX12_init 267 = .ok (.bipush 32, 2) := by decide +kernel
theorem dX12_init_269 : decode cX12_init 269 = .ok (.iastore, 1) := by decide +kernel
theorem dX12_init_270 : decode cX12_init 270 = .ok (.dup, 1) := by decide +kernel
theorem dX12_init_271 : decode cX12_init 271 = .ok (.bipush 17, 2) := by decide +kernel
theorem dX12_init_273 : decode cX12_init 273 = .ok (.bipush 97, 2) := by decide +kernel
theorem dX12_init_275 : decode cX12_init 275 = .ok (.iastore, 1) := by decide +kernel
theorem dX12_init_276 : decode cX12_init 276 = .ok (.dup, 1) := by decide +kernel
theorem dX12_init_277 : decode cX12_init 277 = .ok (.bipush 18, 2) := by decide +kernel
theorem dX12_init_279 : decode cX12_init 279 = .ok (.bipush 110, 2) := by decide +kernel
theorem dX12_init_281 : decode cX12_init 281 = .ok (.iastore, 1) := by decide +kernel
theorem dX12_init_282 : decode cX12_init 282 = .ok (.dup, 1) := by decide +kernel
theorem dX12_init_283 : decode cX12_init 283 = .ok (.bipush 19, 2) := by decide +kernel
theorem dX12_init_285 : decode cX12_init 285 = .ok (.bipush 100, 2) := by decide +kernel
theorem dX12_init_287 : decode cX12_init 287 = .ok (.iastore, 1) := by decide +kernel
theorem dX12_init_288 : decode cX12_init 288 = .ok (.dup, 1) := by decide +kernel
theorem dX12_init_289 : decode cX12_init 289 = .ok (.bipush 20, 2) := by decide +kernel
theorem dX12_init_291 : decode cX12_init 291 = .ok (.bipush 32, 2) := by decide +kernel
theorem dX12_init_293 : decode cX12_init 293 = .ok (.iastore, 1) := by decide +kernel
theorem dX12_init_294 : decode cX12_init 294 = .ok (.dup, 1) := by decide +kernel
theorem dX12_init_295 : decode cX12_init 295 = .ok (.bipush 21, 2) := by decide +kernel
theorem dX12_init_297 : decode cX12_init 297 = .ok (.bipush 110, 2) := by decide +kernel
theorem dX12_init_299 : decode cX12_init 299 = .ok (.iastore, 1) := by decide +kernel
theorem dX12_init_300 : decode cX12_init 300 = .ok (.dup, 1) := by decide +kernel
theorem dX12_init_301 : decode cX12_init 301 = .ok (.bipush 22, 2) := by decide +kernel
theorem dX12_init_303 : decode cX12_init 303 = .ok (.bipush 111, 2) := by decide +kernel
theorem dX12_init_305 : decode cX12_init 305 = .ok (.iastore, 1) := by decide +kernel
theorem dX12_init_306 : decode cX12_init 306 = .ok (.dup, 1) := by decide +kernel
theorem dX12_init_307 : decode cX12_init 307 = .ok (.bipush 23, 2) := by decide +kernel
theorem dX12_init_309 : decode cX12_init 309 = .ok (.bipush 116, 2) := by decide +kernel
theorem dX12_init_311 : decode cX12_init 311 = .ok (.iastore, 1) := by decide +kernel
theorem dX12_init_312 : decode cX12_init 312 = .ok (.dup, 1) := by decide +kernel
theorem dX12_init_313 : decode cX12_init 313 = .ok (.bipush 24, 2) := by decide +kernel
theorem dX12_init_315 : decode cX12_init 315 = .ok (.bipush 32, 2) := by decide +kernel
theorem dX12_init_317 : decode cX12_init 317 = .ok (.iastore, 1) := by decide +kernel
theorem dX12_init_318 : decode cX12_init 318 = .ok (.dup, 1) := by decide +kernel
theorem dX12_init_319 : decode cX12_init 319 = .ok (.bipush 25, 2) := by decide +kernel
theorem dX12_init_321 : decode cX12_init 321 = .ok (.bipush 108, 2) := by decide +kernel
theorem dX12_init_323 : decode cX12_init 323 = .ok (.iastore, 1) := by decide +kernel
theorem dX12_init_324 : decode cX12_init 324 = .ok (.dup, 1) := by decide +kernel
theorem dX12_init_325 : decode cX12_init 325 = .ok (.bipush 26, 2) := by decide +kernel
theorem dX12_init_327 : decode cX12_init 327 = .ok (.bipush 101, 2) := by decide +kernel
theorem dX12_init_329 : decode cX12_init 329 = .ok (.iastore, 1) := by decide +kernel
theorem dX12_init_330 : decode cX12_init 330 = .ok (.dup, 1) := by decide +kernel
theorem dX12_init_331 : decode cX12_init 331 = .ok (.bipush 27, 2) := by decide +kernel
theorem dX12_init_333 : decode cX12_init 333 = .ok (.bipush 116, 2) := by decide +kernel
theorem dX12_init_335 : decode cX12_init 335 = .ok (.iastore, 1) := by decide +kernel
theorem dX12_init_336 : decode cX12_init 336 = .ok (.dup, 1) := by decide +kernel
theorem dX12_init_337 : decode cX12_init 337 = .ok (.bipush 28, 2) := by decide +kernel
theorem dX12_init_339 : decode cX12_init 339 = .ok (.bipush 116, 2) := by decide +kernel
theorem dX12_init_341 : decode cX12_init 341 = .ok (.iastore, 1) := by decide +kernel
theorem dX12_init_342 : decode cX12_init 342 = .ok (.dup, 1) := by decide +kernel
theorem dX12_init_343 : decode cX12_init 343 = .ok (.bipush 29, 2) := by decide +kernel
theorem dX12_init_345 : decode cX12_init 345 = .ok (.bipush 101, 2) := by decide +kernel
theorem dX12_init_347 : decode cX12_init 347 = .ok (.iastore, 1) := by decide +kernel
theorem dX12_init_348 : decode cX12_init 348 = .ok (.dup, 1) := by decide +kernel
theorem dX12_init_349 : decode cX12_init 349 = .ok (.bipush 30, 2) := by decide +kernel
theorem dX12_init_351 : decode cX12_init 351 = .ok (.bipush 114, 2) := by decide +kernel
theorem dX12_init_353 : decode cX12_init 353 = .ok (.iastore, 1) := by decide +kernel
theorem dX12_init_354 : decode cX12_init 354 = .ok (.dup, 1) := by decide +kernel
theorem dX12_init_355 : decode cX12_init 355 = .ok (.bipush 31, 2) := by decide +kernel
theorem dX12_init_357 : decode cX12_init 357 = .ok (.bipush 115, 2) := by decide +kernel
theorem dX12_init_359 : decode cX12_init 359 = .ok (.iastore, 1) := by decide +kernel
theorem dX12_init_360 : decode cX12_init 360 = .ok (.dup, 1) := by decide +kernel
theorem dX12_init_361 : decode cX12_init 361 = .ok (.bipush 32, 2) := by decide +kernel
theorem dX12_init_363 : decode cX12_init 363 = .ok (.bipush 32, 2) := by decide +kernel
theorem dX12_init_365 : decode cX12_init 365 = .ok (.iastore, 1) := by decide +kernel
theorem dX12_init_366 : decode cX12_init 366 = .ok (.dup, 1) := by decide +kernel
theorem dX12_init_367 : decode cX12_init 367 = .ok (.bipush 33, 2) := by decide +kernel
theorem dX12_init_369 : decode cX12_init 369 = .ok (.bipush 102, 2) := by decide +kernel
theorem dX12_init_371 : decode cX12_init 371 = .ok (.iastore, 1) := by decide +kernel
theorem dX12_init_372 : decode cX12_init 372 = .ok (.dup, 1) := by decide +kernel
theorem dX12_init_373 : decode cX12_init 373 = .ok (.bipush 34, 2) := by decide +kernel
theorem dX12_init_375 : decode cX12_init 375 = .ok (.bipush 105, 2) := by decide +kernel
theorem dX12_init_377 : decode cX12_init 377 = .ok (.iastore, 1) := by decide +kernel
theorem dX12_init_378 : decode cX12_init 378 = .ok (.dup, 1) := by decide +kernel
theorem dX12_init_379 : decode cX12_init 379 = .ok (.bipush 35, 2) := by decide +kernel
theorem dX12_init_381 : decode cX12_init 381 = .ok (.bipush 114, 2) := by decide +kernel
theorem dX12_init_383 : decode cX12_init 383 = .ok (.iastore, 1) := by decide +kernel
theorem dX12_init_384 : decode cX12_init 384 = .ok (.dup, 1) := by decide +kernel
theorem dX12_init_385 : decode cX12_init 385 = .ok (.bipush 36, 2) := by decide +kernel
theorem dX12_init_387 : decode cX12_init 387 = .ok (.bipush 115, 2) := by decide +kernel
theorem dX12_init_389 : decode cX12_init 389 = .ok (.iastore, 1) := by decide +kernel
theorem dX12_init_390 : decode cX12_init 390 = .ok (.dup, 1) := by decide +kernel
theorem dX12_init_391 : decode cX12_init 391 = .ok (.bipush 37, 2) := by decide +kernel
theorem dX12_init_393 : decode cX12_init 393 = .ok (.bipush 116, 2) := by decide +kernel
theorem dX12_init_395 : decode cX12_init 395 = .ok (.iastore, 1) := by decide +kernel
theorem dX12_init_396 : decode cX12_init 396 = .ok (.dup, 1) := by decide +kernel
theorem dX12_init_397 : decode cX12_init 397 = .ok (.bipush 38, 2) := by decide +kernel
theorem dX12_init_399 : decode cX12_init 399 = .ok (.bipush 32, 2) := by decide +kernel
theorem dX12_init_401 : decode cX12_init 401 = .ok (.iastore, 1) := by decide +kernel
theorem dX12_init_402 : decode cX12_init 402 = .ok (.dup, 1) := by decide +kernel
theorem dX12_init_403 : decode cX12_init 403 = .ok (.bipush 39, 2) := by decide +kernel
theorem dX12_init_405 : decode cX12_init 405 = .ok (.bipush 108, 2) := by decide +kernel
theorem dX12_init_407 : decode cX12_init 407 = .ok (.iastore, 1) := by decide +kernel
theorem dX12_init_408 : decode cX12_init 408 = .ok (.dup, 1) := by decide +kernel
theorem dX12_init_409 : decode cX12_init 409 = .ok (.bipush 40, 2) := by decide +kernel
theorem dX12_init_411 : decode cX12_init 411 = .ok (.bipush 97, 2) := by decide +kernel
theorem dX12_init_413 : decode cX12_init 413 = .ok (.iastore, 1) := by decide +kernel
theorem dX12_init_414 : decode cX12_init 414 = .ok (.dup, 1) := by decide +kernel
theorem dX12_init_415 : decode cX12_init 415 = .ok (.bipush 41, 2) := by decide +kernel
theorem dX12_init_417 : decode cX12_init 417 = .ok (.bipush 115, 2) := by decide +kernel
theorem dX12_init_419 : decode cX12_init 419 = .ok (.iastore, 1) := by decide +kernel
theorem dX12_init_420 : decode cX12_init 420 = .ok (.dup, 1) := by decide +kernel
theorem dX12_init_421 : decode cX12_init 421 = .ok (.bipush 42, 2) := by decide +kernel
theorem dX12_init_423 : decode cX12_init 423 = .ok (.bipush 116, 2) := by decide +kernel
theorem dX12_init_425 : decode cX12_init 425 = .ok (.iastore, 1) := by decide +kernel
theorem dX12_init_426 : decode cX12_init 426 = .ok (.dup, 1) := by decide +kernel
theorem dX12_init_427 : decode cX12_init 427 = .ok (.bipush 43, 2) := by decide +kernel
theorem dX12_init_429 : decode cX12_init 429 = .ok (.bipush 32, 2) := by decide +kernel
theorem dX12_init_431 : decode cX12_init 431 = .ok (.iastore, 1) := by decide +kernel
theorem dX12_init_432 : decode cX12_init 432 = .ok (.dup, 1) := by decide +kernel
theorem dX12_init_433 : decode cX12_init 433 = .ok (.bipush 44, 2) := by decide +kernel
theorem dX12_init_435 : decode cX12_init 435 = .ok (.bipush 108, 2) := by decide +kernel
theorem dX12_init_437 : decode cX12_init 437 = .ok (.iastore, 1) := by decide +kernel
theorem dX12_init_438 : decode cX12_init 438 = .ok (.dup, 1) := by decide +kernel
theorem dX12_init_439 : decode cX12_init 439 = .ok (.bipush 45, 2) := by decide +kernel
theorem dX12_init_441 : decode cX12_init 441 = .ok (.bipush 105, 2) := by decide +kernel
theorem dX12_init_443 : decode cX12_init 443 = .ok (.iastore, 1) := by decide +kernel
theorem dX12_init_444 : decode cX12_init 444 = .ok (.dup, 1) := by decide +kernel
theorem dX12_init_445 : decode cX12_init 445 = .ok (.bipush 46, 2) := by decide +kernel
theorem dX12_init_447 : decode cX12_init 447 = .ok (.bipush 107, 2) := by decide +kernel
theorem dX12_init_449 : decode cX12_init 449 = .ok (.iastore, 1) := by decide +kernel
theorem dX12_init_450 : decode cX12_init 450 = .ok (.dup, 1) := by decide +kernel
theorem dX12_init_451 : decode cX12_init 451 = .ok (.bipush 47, 2) := by decide +kernel
theorem dX12_init_453 : decode cX12_init 453 = .ok (.bipush 101, 2) := by decide +kernel
theorem dX12_init_455 : decode cX12_init 455 = .ok (.iastore, 1) := by decide +kernel
theorem dX12_init_456 : decode cX12_init 456 = .ok (.dup, 1) := by decide +kernel
theorem dX12_init_457 : decode cX12_init 457 = .ok (.bipush 48, 2) := by decide +kernel
theorem dX12_init_459 : decode cX12_init 459 = .ok (.bipush 32, 2) := by decide +kernel
theorem dX12_init_461 : decode cX12_init 461 = .ok (.iastore, 1) := by decide +kernel
theorem dX12_init_462 : decode cX12_init 462 = .ok (.dup, 1) := by decide +kernel
theorem dX12_init_463 : decode cX12_init 463 = .ok (.bipush 49, 2) := by decide +kernel
theorem dX12_init_465 : decode cX12_init 465 = .ok (.bipush 97, 2) := by decide +kernel
theorem dX12_init_467 : decode cX12_init 467 = .ok (.iastore, 1) := by decide +kernel
theorem dX12_init_468 : decode cX12_init 468 = .ok (.dup, 1) := by decide +kernel
theorem dX12_init_469 : decode cX12_init 469 = .ok (.bipush 50, 2) := by decide +kernel
theorem dX12_init_471 : decode cX12_init 471 = .ok (.bipush 98, 2) := by decide +kernel
theorem dX12_init_473 : decode cX12_init 473 = .ok (.iastore, 1) := by decide +kernel
theorem dX12_init_474 : decode cX12_init 474 = .ok (.dup, 1) := by decide +kernel
theorem dX12_init_475 : decode cX12_init 475 = .ok (.bipush 51, 2) := by decide +kernel
theorem dX12_init_477 : decode cX12_init 477 = .ok (.bipush 114, 2) := by decide +kernel
theorem dX12_init_479 : decode cX12_init 479 = .ok (.iastore, 1) := by decide +kernel
theorem dX12_init_480 : decode cX12_init 480 = .ok (.dup, 1) := by decide +kernel
theorem dX12_init_481 : decode cX12_init 481 = .ok (.bipush 52, 2) := by decide +kernel
theorem dX12_init_483 : decode cX12_init 483 = .ok (.bipush 111, 2) := by decide +kernel
theorem dX12_init_485 : decode cX12_init 485 = .ok (.iastore, 1) := by decide +kernel
theorem dX12_init_486 : decode cX12_init 486 = .ok (.dup, 1) := by decide +kernel
theorem dX12_init_487 : decode cX12_init 487 = .ok (.bipush 53, 2) := by decide +kernel
theorem dX12_init_489 : decode cX12_init 489 = .ok (.bipush 97, 2) := by decide +kernel
theorem dX12_init_491 : decode cX12_init 491 = .ok (.iastore, 1) := by decide +kernel
theorem dX12_init_492 : decode cX12_init 492 = .ok (.dup, 1) := by decide +kernel
theorem dX12_init_493 : decode cX12_init 493 = .ok (.bipush 54, 2) := by decide +kernel
theorem dX12_init_495 : decode cX12_init 495 = .ok (.bipush 100, 2) := by decide +kernel
theorem dX12_init_497 : decode cX12_init 497 = .ok (.iastore, 1) := by decide +kernel
theorem dX12_init_498 : decode cX12_init 498 = .ok (.dup, 1) := by decide +kernel
theorem dX12_init_499 : decode cX12_init 499 = .ok (.bipush 55, 2) := by decide +kernel
theorem dX12_init_501 : decode cX12_init 501 = .ok (.bipush 32, 2) := by decide +kernel
theorem dX12_init_503 : decode cX12_init 503 = .ok (.iastore, 1) := by decide +kernel
theorem dX12_init_504 : decode cX12_init 504 = .ok (.dup, 1) := by decide +kernel
theorem dX12_init_505 : decode cX12_init 505 = .ok (.bipush 56, 2) := by decide +kernel
theorem dX12_init_507 : decode cX12_init 507 = .ok (.bipush 116, 2) := by decide +kernel
theorem dX12_init_509 : decode cX12_init 509 = .ok (.iastore, 1) := by decide +kernel
theorem dX12_init_510 : decode cX12_init 510 = .ok (.dup, 1) := by decide +kernel
theorem dX12_init_511 : decode cX12_init 511 = .ok (.bipush 57, 2) := by decide +kernel
theorem dX12_init_513 : decode cX12_init 513 = .ok (.bipush 119, 2) := by decide +kernel
theorem dX12_init_515 : decode cX12_init 515 = .ok (.iastore, 1) := by decide +kernel
theorem dX12_init_516 : decode cX12_init 516 = .ok (.dup, 1) := by decide +kernel
theorem dX12_init_517 : decode cX12_init 517 = .ok (.bipush 58, 2) := by decide +kernel
theorem dX12_init_519 : decode cX12_init 519 = .ok (.bipush 105, 2) := by decide +kernel
theorem dX12_init_521 : decode cX12_init 521 = .ok (.iastore, 1) := by decide +kernel
theorem dX12_init_522 : decode cX12_init 522 = .ok (.dup, 1) := by decide +kernel
theorem dX12_init_523 : decode cX12_init 523 = .ok (.bipush 59, 2) := by decide +kernel
theorem dX12_init_525 : decode cX12_init 525 = .ok (.bipush 99, 2) := by decide +kernel
theorem dX12_init_527 : decode cX12_init 527 = .ok (.iastore, 1) := by decide +kernel
theorem dX12_init_528 : decode cX12_init 528 = .ok (.dup, 1) := by decide +kernel
theorem dX12_init_529 : decode cX12_init 529 = .ok (.bipush 60, 2) := by decide +kernel
theorem dX12_init_531 : decode cX12_init 531 = .ok (.bipush 101, 2) := by decide +kernel
theorem dX12_init_533 : decode cX12_init 533 = .ok (.iastore, 1) := by decide +kernel
theorem dX12_init_534 : decode cX12_init 534 = .ok (.dup, 1) := by decide +kernel
theorem dX12_init_535 : decode cX12_init 535 = .ok (.bipush 61, 2) := by decide +kernel
theorem dX12_init_537 : decode cX12_init 537 = .ok (.bipush 32, 2) := by decide +kernel
theorem dX12_init_539 : decode cX12_init 539 = .ok (.iastore, 1) := by decide +kernel
theorem dX12_init_540 : decode cX12_init 540 = .ok (.dup, 1) := by decide +kernel
theorem dX12_init_541 : decode cX12_init 541 = .ok (.bipush 62, 2) := by decide +kernel
theorem dX12_init_543 : decode cX12_init 543 = .ok (.bipush 97, 2) := by decide +kernel
theorem dX12_init_545 : decode cX12_init 545 = .ok (.iastore, 1) := by decide +kernel
theorem dX12_init_546 : decode cX12_init 546 = .ok (.dup, 1) := by decide +kernel
theorem dX12_init_547 : decode cX12_init 547 = .ok (.bipush 63, 2) := by decide +kernel
theorem dX12_init_549 : decode cX12_init 549 = .ok (.bipush 103, 2) := by decide +kernel
theorem dX12_init_551 : decode cX12_init 551 = .ok (.iastore, 1) := by decide +kernel
theorem dX12_init_552 : decode cX12_init 552 = .ok (.dup, 1) := by decide +kernel
theorem dX12_init_553 : decode cX12_init 553 = .ok (.bipush 64, 2) := by decide +kernel
theorem dX12_init_555 : decode cX12_init 555 = .ok (.bipush 101, 2) := by decide +kernel
theorem dX12_init_557 : decode cX12_init 557 = .ok (.iastore, 1) := by decide +kernel
theorem dX12_init_558 : decode cX12_init 558 = .ok (.dup, 1) := by decide +kernel
theorem dX12_init_559 : decode cX12_init 559 = .ok (.bipush 65, 2) := by decide +kernel
theorem dX12_init_561 : decode cX12_init 561 = .ok (.bipush 32, 2) := by decide +kernel
theorem dX12_init_563 : decode cX12_init 563 = .ok (.iastore, 1) := by decide +kernel
theorem dX12_init_564 : decode cX12_init 564 = .ok (.dup, 1) := by decide +kernel
theorem dX12_init_565 : decode cX12_init 565 = .ok (.bipush 66, 2) := by decide +kernel
theorem dX12_init_567 : decode cX12_init 567 = .ok (.bipush 99, 2) := by decide +kernel
theorem dX12_init_569 : decode cX12_init 569 = .ok (.iastore, 1) := by decide +kernel
theorem dX12_init_570 : decode cX12_init 570 = .ok (.dup, 1) := by decide +kernel
theorem dX12_init_571 : decode cX12_init 571 = .ok (.bipush 67, 2) := by decide +kernel
theorem dX12_init_573 : decode cX12_init 573 = .ok (.bipush 111, 2) := by decide +kernel
theorem dX12_init_575 : decode cX12_init 575 = .ok (.iastore, 1) := by decide +kernel
theorem dX12_init_576 : decode cX12_init 576 = .ok (.dup, 1) := by decide +kernel
theorem dX12_init_577 : decode cX12_init 577 = .ok (.bipush 68, 2) := by decide +kernel
theorem dX12_init_579 : decode cX12_init 579 = .ok (.bipush 105, 2) := by decide +kernel
theorem dX12_init_581 : decode cX12_init 581 = .ok (.iastore, 1) := by decide +kernel
theorem dX12_init_582 : decode cX12_init 582 = .ok (.dup, 1) := by decide +kernel
theorem dX12_init_583 : decode cX12_init 583 = .ok (.bipush 69, 2) := by decide +kernel
theorem dX12_init_585 : decode cX12_init 585 = .ok (.bipush 110, 2) := by decide +kernel
theorem dX12_init_587 : decode cX12_init 587 = .ok (.iastore, 1) := by decide +kernel
theorem dX12_init_588 : decode cX12_init 588 = .ok (.dup, 1) := by decide +kernel
theorem dX12_init_589 : decode cX12_init 589 = .ok (.bipush 70, 2) := by decide +kernel
theorem dX12_init_591 : decode cX12_init 591 = .ok (.bipush 32, 2) := by decide +kernel
theorem dX12_init_593 : decode cX12_init 593 = .ok (.iastore, 1) := by decide +kernel
theorem dX12_init_594 : decode cX12_init 594 = .ok (.dup, 1) := by decide +kernel
theorem dX12_init_595 : decode cX12_init 595 = .ok (.bipush 71, 2) := by decide +kernel
theorem dX12_init_597 : decode cX12_init 597 = .ok (.bipush 115, 2) := by decide +kernel
theorem dX12_init_599 : decode cX12_init 599 = .ok (.iastore, 1) := by decide +kernel
theorem dX12_init_600 : decode cX12_init 600 = .ok (.dup, 1) := by decide +kernel
theorem dX12_init_601 : decode cX12_init 601 = .ok (.bipush 72, 2) := by decide +kernel
theorem dX12_init_603 : decode cX12_init 603 = .ok (.bipush 101, 2) := by decide +kernel
theorem dX12_init_605 : decode cX12_init 605 = .ok (.iastore, 1) := by decide +kernel
theorem dX12_init_606 : decode cX12_init 606 = .ok (.dup, 1) := by decide +kernel
theorem dX12_init_607 : decode cX12_init 607 = .ok (.bipush 73, 2) := by decide +kernel
theorem dX12_init_609 : decode cX12_init 609 = .ok (.bipush 120, 2) := by decide +kernel
theorem dX12_init_611 : decode cX12_init 611 = .ok (.iastore, 1) := by decide +kernel
theorem dX12_init_612 : decode cX12_init 612 = .ok (.dup, 1) := by decide +kernel
theorem dX12_init_613 : decode cX12_init 613 = .ok (.bipush 74, 2) := by decide +kernel
theorem dX12_init_615 : decode cX12_init 615 = .ok (.bipush 32, 2) := by decide +kernel
theorem dX12_init_617 : decode cX12_init 617 = .ok (.iastore, 1) := by decide +kernel
theorem dX12_init_618 : decode cX12_init 618 = .ok (.dup, 1) := by decide +kernel
theorem dX12_init_619 : decode cX12_init 619 = .ok (.bipush 75, 2) := by decide +kernel
theorem dX12_init_621 : decode cX12_init 621 = .ok (.bipush 119, 2) := by decide +kernel
theorem dX12_init_623 : decode cX12_init 623 = .ok (.iastore, 1) := by decide +kernel
theorem dX12_init_624 : decode cX12_init 624 = .ok (.dup, 1) := by decide +kernel
theorem dX12_init_625 : decode cX12_init 625 = .ok (.bipush 76, 2) := by decide +kernel
theorem dX12_init_627 : decode cX12_init 627 = .ok (.bipush 111, 2) := by decide +kernel
theorem dX12_init_629 : decode cX12_init 629 = .ok (.iastore, 1) := by decide +kernel
theorem dX12_init_630 : decode cX12_init 630 = .ok (.dup, 1) := by decide +kernel
theorem dX12_init_631 : decode cX12_init 631 = .ok (.bipush 77, 2) := by decide +kernel
theorem dX12_init_633 : decode cX12_init 633 = .ok (.bipush 114, 2) := by decide +kernel
theorem dX12_init_635 : decode cX12_init 635 = .ok (.iastore, 1) := by decide +kernel
theorem dX12_init_636 : decode cX12_init 636 = .ok (.dup, 1) := by decide +kernel
theorem dX12_init_637 : decode cX12_init 637 = .ok (.bipush 78, 2) := by decide +kernel
theorem dX12_init_639 : decode cX12_init 639 = .ok (.bipush 116, 2) := by decide +kernel
theorem dX12_init_641 : decode cX12_init 641 = .ok (.iastore, 1) := by decide +kernel
theorem dX12_init_642 : decode cX12_init 642 = .ok (.dup, 1) := by decide +kernel
theorem dX12_init_643 : decode cX12_init 643 = .ok (.bipush 79, 2) := by decide +kernel
theorem dX12_init_645 : decode cX12_init 645 = .ok (.bipush 104, 2) := by decide +kernel
theorem dX12_init_647 : decode cX12_init 647 = .ok (.iastore, 1) := by decide +kernel
theorem dX12_init_648 : decode cX12_init 648 = .ok (.dup, 1) := by decide +kernel
theorem dX12_init_649 : decode cX12_init 649 = .ok (.bipush 80, 2) := by decide +kernel
theorem dX12_init_651 : decode cX12_init 651 = .ok (.bipush 32, 2) := by decide +kernel
theorem dX12_init_653 : decode cX12_init 653 = .ok (.iastore, 1) := by decide +kernel
theorem dX12_init_654 : decode cX12_init 654 = .ok (.putfield 62, 3) := by decide +kernel
theorem dX12_init_657 : decode cX12_init 657 = .ok (.aload_n 0, 1) := by decide +kernel
theorem dX12_init_658 : decode cX12_init 658 = .ok (.bipush 32, 2) := by decide +kernel
theorem dX12_init_660 : decode cX12_init 660 = .ok (.newarray .int, 2) := by decide +kernel
theorem dX12_init_662 : decode cX12_init 662 = .ok (.putfield 65, 3) := by decide +kernel
theorem dX12_init_665 : decode cX12_init 665 = .ok (.aload_n 0, 1) := by decide +kernel
theorem dX12_init_666 : decode cX12_init 666 = .ok (.bipush 32, 2) := by decide +kernel
theorem dX12_init_668 : decode cX12_init 668 = .ok (.newarray .int, 2) := by decide +kernel
theorem dX12_init_670 : decode cX12_init 670 = .ok (.putfield 68, 3) := by decide +kernel
theorem dX12_init_673 : decode cX12_init 673 = .ok (.aload_n 0, 1) := by decide +kernel
theorem dX12_init_674 : decode cX12_init 674 = .ok (.bipush 32, 2) := by decide +kernel
theorem dX12_init_676 : decode cX12_init 676 = .ok (.newarray .int, 2) := by decide +kernel
theorem dX12_init_678 : decode cX12_init 678 = .ok (.putfield 71, 3) := by decide +kernel
theorem dX12_init_681 : decode cX12_init 681 = .ok (.aload_n 0, 1) := by decide +kernel
theorem dX12_init_682 : decode cX12_init 682 = .ok (.sipush 800, 3) := by decide +kernel
theorem dX12_init_685 : decode cX12_init 685 = .ok (.newarray .int, 2) := by decide +kernel
theorem dX12_init_687 : decode cX12_init 687 = .ok (.putfield 74, 3) := by decide +kernel
theorem dX12_init_690 : decode cX12_init 690 = .ok (.aload_n 0, 1) := by decide +kernel
theorem dX12_init_691 : decode cX12_init 691 = .ok (.sipush 800, 3) := by decide +kernel
theorem dX12_init_694 : decode cX12_init 694 = .ok (.newarray .int, 2) := by decide +kernel
theorem dX12_init_696 : decode cX12_init 696 = .ok (.putfield 77, 3) := by decide +kernel
theorem dX12_init_699 : decode cX12_init 699 = .ok (.aload_n 0, 1) := by decide +kernel
theorem dX12_init_700 : decode cX12_init 700 = .ok (.bipush 40, 2) := by decide +kernel
theorem dX12_init_702 : decode cX12_init 702 = .ok (.newarray .int, 2) := by decide +kernel
theorem dX12_init_704 : decode cX12_init 704 = .ok (.putfield 80, 3) := by decide +kernel
theorem dX12_init_707 : decode cX12_init 707 = .ok (.aload_n 0, 1) := by decide +kernel
theorem dX12_init_708 : decode cX12_init 708 = .ok (.iconst (-1), 1) := by decide +kernel
theorem dX12_init_709 : decode cX12_init 709 = .ok (.putfield 83, 3) := by decide +kernel
theorem dX12_init_712 : decode cX12_init 712 = .ok (.aload_n 0, 1) := by decide +kernel
theorem dX12_init_713 : decode cX12_init 713 = .ok (.bipush 10, 2) := by decide +kernel
theorem dX12_init_715 : decode cX12_init 715 = .ok (.newarray .int, 2) := by decide +kernel
theorem dX12_init_717 : decode cX12_init 717 = .ok (.putfield 86, 3) := by decide +kernel
theorem dX12_init_720 : decode cX12_init 720 = .ok (.aload_n 0, 1) := by decide +kernel
theorem dX12_init_721 : decode cX12_init 721 = .ok (.sipush 420, 3) := by decide +kernel
theorem dX12_init_724 : decode cX12_init 724 = .ok (.newarray .int, 2) := by decide +kernel
theorem dX12_init_726 : decode cX12_init 726 = .ok (.putfield 89, 3) := by decide +kernel
theorem dX12_init_729 : decode cX12_init 729 = .ok (.aload_n 0, 1) := by decide +kernel
theorem dX12_init_730 : decode cX12_init 730 = .ok (.bipush 8, 2) := by decide +kernel
theorem dX12_init_732 : decode cX12_init 732 = .ok (.newarray .int, 2) := by decide +kernel
theorem dX12_init_734 : decode cX12_init 734 = .ok (.putfield 92, 3) := by decide +kernel
theorem dX12_init_737 : decode cX12_init 737 = .ok (.aload_n 0, 1) := by decide +kernel
theorem dX12_init_738 : decode cX12_init 738 = .ok (.bipush 20, 2) := by decide +kernel
theorem dX12_init_740 : decode cX12_init 740 = .ok (.newarray .int, 2) := by decide +kernel
theorem dX12_init_742 : decode cX12_init 742 = .ok (.putfield 95, 3) := by decide +kernel
theorem dX12_init_745 : decode cX12_init 745 = .ok (.aload_n 0, 1) := by decide +kernel
theorem dX12_init_746 : decode cX12_init 746 = .ok (.bipush 20, 2) := by decide +kernel
theorem dX12_init_748 : decode cX12_init 748 = .ok (.newarray .int, 2) := by decide +kernel
theorem dX12_init_750 : decode cX12_init 750 = .ok (.putfield 98, 3) := by decide +kernel
theorem dX12_init_753 : decode cX12_init 753 = .ok (.aload_n 0, 1) := by decide +kernel
theorem dX12_init_754 : decode cX12_init 754 = .ok (.bipush 7, 2) := by decide +kernel
theorem dX12_init_756 : decode cX12_init 756 = .ok (.newarray .int, 2) := by decide +kernel
theorem dX12_init_758 : decode cX12_init 758 = .ok (.putfield 101, 3) := by decide +kernel
theorem dX12_init_761 : decode cX12_init 761 = .ok (.aload_n 0, 1) := by decide +kernel
theorem dX12_init_762 : decode cX12_init 762 = .ok (.bipush 7, 2) := by decide +kernel
theorem dX12_init_764 : decode cX12_init 764 = .ok (.newarray .int, 2) := by decide +kernel
theorem dX12_init_766 : decode cX12_init 766 = .ok (.putfield 104, 3) := by decide +kernel
theorem dX12_init_769 : decode cX12_init 769 = .ok (.aload_n 0, 1) := by decide +kernel
theorem dX12_init_770 : decode cX12_init 770 = .ok (.bipush 6, 2) := by decide +kernel
theorem dX12_init_772 : decode cX12_init 772 = .ok (.newarray .int, 2) := by decide +kernel
theorem dX12_init_774 : decode cX12_init 774 = .ok (.putfield 107, 3) := by decide +kernel
theorem dX12_init_777 : decode cX12_init 777 = .ok (.aload_n 0, 1) := by decide +kernel
theorem dX12_init_778 : decode cX12_init 778 = .ok (.sipush 820, 3) := by decide +kernel
theorem dX12_init_781 : decode cX12_init 781 = .ok (.newarray .int, 2) := by decide +kernel
theorem dX12_init_783 : decode cX12_init 783 = .ok (.putfield 110, 3) := by decide +kernel
theorem dX12_init_786 : decode cX12_init 786 = .ok (.aload_n 0, 1) := by decide +kernel
theorem dX12_init_787 : decode cX12_init 787 = .ok (.bipush 20, 2) := by decide +kernel
theorem dX12_init_789 : decode cX12_init 789 = .ok (.newarray .int, 2) := by decide +kernel
theorem dX12_init_791 : decode cX12_init 791 = .ok (.putfield 113, 3) := by decide +kernel
theorem dX12_init_794 : decode cX12_init 794 = .ok (.aload_n 0, 1) := by decide +kernel
theorem dX12_init_795 : decode cX12_init 795 = .ok (.bipush 20, 2) := by decide +kernel
theorem dX12_init_797 : decode cX12_init 797 = .ok (.newarray .int, 2) := by decide +kernel
theorem dX12_init_799 : decode cX12_init 799 = .ok (.putfield 116, 3) := by decide +kernel
theorem dX12_init_802 : decode cX12_init 802 = .ok (.aload_n 0, 1) := by decide +kernel
theorem dX12_init_803 : decode cX12_init 803 = .ok (.bipush 64, 2) := by decide +kernel
theorem dX12_init_805 : decode cX12_init 805 = .ok (.newarray .int, 2) := by decide +kernel
theorem dX12_init_807 : decode cX12_init 807 = .ok (.putfield 119, 3) := by decide +kernel
theorem dX12_init_810 : decode cX12_init 810 = .ok (.aload_n 0, 1) := by decide +kernel
theorem dX12_init_811 : decode cX12_init 811 = .ok (.bipush 8, 2) := by decide +kernel
theorem dX12_init_813 : decode cX12_init 813 = .ok (.newarray .int, 2) := by decide +kernel
theorem dX12_init_815 : decode cX12_init 815 = .ok (.putfield 122, 3) := by decide +kernel
theorem dX12_init_818 : decode cX12_init 818 = .ok (.aload_n 0, 1) := by decide +kernel
theorem dX12_init_819 : decode cX12_init 819 = .ok (.sipush 256, 3) := by decide +kernel
theorem dX12_init_822 : decode cX12_init 822 = .ok (.newarray .int, 2) := by decide +kernel
theorem dX12_init_824 : decode cX12_init 824 = .ok (.putfield 125, 3) := by decide +kernel
theorem dX12_init_827 : decode cX12_init 827 = .ok (.aload_n 0, 1) := by decide +kernel
theorem dX12_init_828 : decode cX12_init 828 = .ok (.bipush 8, 2) := by decide +kernel
theorem dX12_init_830 : decode cX12_init 830 = .ok (.newarray .int, 2) := by decide +kernel
theorem dX12_init_832 : decode cX12_init 832 = .ok (.putfield 128, 3) := by decide +kernel
theorem dX12_init_835 : decode cX12_init 835 = .ok (.aload_n 0, 1) := by decide +kernel
theorem dX12_init_836 : decode cX12_init 836 = .ok (.bipush 20, 2) := by decide +kernel
theorem dX12_init_838 : decode cX12_init 838 = .ok (.newarray .int, 2) := by decide +kernel
theorem dX12_init_840 : decode cX12_init 840 = .ok (.putfield 131, 3) := by decide +kernel
theorem dX12_init_843 : decode cX12_init 843 = .ok (.aload_n 0, 1) := by decide +kernel
theorem dX12_init_844 : decode cX12_init 844 = .ok (.bipush 20, 2) := by decide +kernel
theorem dX12_init_846 : decode cX12_init 846 = .ok (.newarray .int, 2) := by decide +kernel
theorem dX12_init_848 : decode cX12_init 848 = .ok (.putfield 134, 3) := by decide +kernel
theorem dX12_init_851 : decode cX12_init 851 = .ok (.aload_n 0, 1) := by decide +kernel
theorem dX12_init_852 : decode cX12_init 852 = .ok (.bipush 20, 2) := by decide +kernel
theorem dX12_init_854 : decode cX12_init 854 = .ok (.newarray .int, 2) := by decide +kernel
theorem dX12_init_856 : decode cX12_init 856 = .ok (.putfield 137, 3) := by decide +kernel
theorem dX12_init_859 : decode cX12_init 859 = .ok (.aload_n 0, 1) := by decide +kernel
theorem dX12_init_860 : decode cX12_init 860 = .ok (.bipush 20, 2) := by decide +kernel
theorem dX12_init_862 : decode cX12_init 862 = .ok (.newarray .int, 2) := by decide +kernel
theorem dX12_init_864 : decode cX12_init 864 = .ok (.putfield 140, 3) := by decide +kernel
theorem dX12_init_867 : decode cX12_init 867 = .ok (.aload_n 0, 1) := by decide +kernel
theorem dX12_init_868 : decode cX12_init 868 = .ok (.sipush 1700, 3) := by decide +kernel
theorem dX12_init_871 : decode cX12_init 871 = .ok (.newarray .int, 2) := by decide +kernel
theorem dX12_init_873 : decode cX12_init 873 = .ok (.putfield 143, 3) := by decide +kernel
theorem dX12_init_876 : decode cX12_init 876 = .ok (.return_, 1) := by decide +kernel
theorem dX12_isIn_0 : decode cX12_isIn 0 = .ok (.iload_n 1, 1) := by decide +kernel
theorem dX12_isIn_1 : decode cX12_isIn 1 = .ok (.iload_n 2, 1) := by decide +kernel
theorem dX12_isIn_2 : decode cX12_isIn 2 = .ok (.if_icmp .lt 12, 3) := by decide +kernel
theorem dX12_isIn_5 : decode cX12_isIn 5 = .ok (.iload_n 1, 1) := by decide +kernel
theorem dX12_isIn_6 : decode cX12_isIn 6 = .ok (.iload_n 3, 1) := by decide +kernel
theorem dX12_isIn_7 : decode cX12_isIn 7 = .ok (.if_icmp .gt 7, 3) := by decide +kernel
theorem dX12_isIn_10 : decode cX12_isIn 10 = .ok (.iconst 1, 1) := by decide +kernel
theorem dX12_isIn_11 : decode cX12_isIn 11 = .ok (.goto 4, 3) := by decide +kernel
theorem dX12_isIn_14 : decode cX12_isIn 14 = .ok (.iconst 0, 1) := by decide +kernel
theorem dX12_isIn_15 : decode cX12_isIn 15 = .ok (.ireturn, 1) := by decide +kernel
theorem dX12_ones_0 : decode cX12_ones 0 = .ok (.iconst 0, 1) := by decide +kernel
theorem dX12_ones_1 : decode cX12_ones 1 = .ok (.istore_n 2, 1) := by decide +kernel
theorem dX12_ones_2 : decode cX12_ones 2 = .ok (.iload_n 1, 1) := by decide +kernel
theorem dX12_ones_3 : decode cX12_ones 3 = .ok (.istore_n 3, 1) := by decide +kernel
theorem dX12_ones_4 : decode cX12_ones 4 = .ok (.iload_n 3, 1) := by decide +kernel
theorem dX12_ones_5 : decode cX12_ones 5 = .ok (.ifCond .eq 16, 3) := by decide +kernel
theorem dX12_ones_8 : decode cX12_ones 8 = .ok (.iload_n 2, 1) := by decide +kernel
theorem dX12_ones_9 : decode cX12_ones 9 = .ok (.iconst 1, 1) := by decide +kernel
theorem dX12_ones_10 : decode cX12_ones 10 = .ok (.iadd, 1) := by decide +kernel
theorem dX12_ones_11 : decode cX12_ones 11 = .ok (.istore_n 2, 1) := by decide +kernel
theorem dX12_ones_12 : decode cX12_ones 12 = .ok (.iload_n 3, 1) := by decide +kernel
theorem dX12_ones_13 : decode cX12_ones 13 = .ok (.iload_n 3, 1) := by decide +kernel
theorem dX12_ones_14 : decode cX12_ones 14 = .ok (.iconst 1, 1) := by decide +kernel
theorem dX12_ones_15 : decode cX12_ones 15 = .ok (.isub, 1) := by decide +kernel
theorem dX12_ones_16 : decode cX12_ones 16 = .ok (.iand, 1) := by decide +kernel
theorem dX12_ones_17 : decode cX12_ones 17 = .ok (.istore_n 3, 1) := by decide +kernel
theorem dX12_ones_18 : decode cX12_ones 18 = .ok (.goto (-14), 3) := by decide +kernel
theorem dX12_ones_21 : decode cX12_ones 21 = .ok (.iload_n 2, 1) := by decide +kernel
theorem dX12_ones_22 : decode cX12_ones 22 = .ok (.ireturn, 1) := by decide +kernel
theorem dX12_state_0 : decode cX12_state 0 = .ok (.aload_n 0, 1) := by decide +kernel
theorem dX12_state_1 : decode cX12_state 1 = .ok (.iconst 0, 1) := by decide +kernel
theorem dX12_state_2 : decode cX12_state 2 = .ok (.putfield 146, 3) := by decide +kernel
theorem dX12_state_5 : decode cX12_state 5 = .ok (.aload_n 0, 1) := by decide +kernel
theorem dX12_state_6 : decode cX12_state 6 = .ok (.getfield 149, 3) := by decide +kernel
theorem dX12_state_9 : decode cX12_state 9 = .ok (.istore_n 2, 1) := by decide +kernel
theorem dX12_state_10 : decode cX12_state 10 = .ok (.aload_n 0, 1) := by decide +kernel
theorem dX12_state_11 : decode cX12_state 11 = .ok (.iload_n 1, 1) := by decide +kernel
theorem dX12_state_12 : decode cX12_state 12 = .ok (.putfield 149, 3) := by decide +kernel
theorem dX12_state_15 : decode cX12_state 15 = .ok (.iload_n 2, 1) := by decide +kernel
theorem dX12_state_16 : decode cX12_state 16 = .ok (.ireturn, 1) := by decide +kernel
theorem dX12_draw_0 : decode cX12_draw 0 = .ok (.aload_n 0, 1) := by decide +kernel
theorem dX12_draw_1 : decode cX12_draw 1 = .ok (.ldc 152, 2) := by decide +kernel
theorem dX12_draw_3 : decode cX12_draw 3 = .ok (.aload_n 0, 1) := by decide +kernel
theorem dX12_draw_4 : decode cX12_draw 4 = .ok (.getfield 149, 3) := by decide +kernel
theorem dX12_draw_7 : decode cX12_draw 7 = .ok (.imul, 1) := by decide +kernel
theorem dX12_draw_8 : decode cX12_draw 8 = .ok (.ldc 153, 2) := by decide +kernel
theorem dX12_draw_10 : decode cX12_draw 10 = .ok (.iadd, 1) := by decide +kernel
theorem dX12_draw_11 : decode cX12_draw 11 = .ok (.putfield 149, 3) := by decide +kernel
theorem dX12_draw_14 : decode cX12_draw 14 = .ok (.aload_n 0, 1) := by decide +kernel
theorem dX12_draw_15 : decode cX12_draw 15 = .ok (.getfield 149, 3) := by decide +kernel
theorem dX12_draw_18 : decode cX12_draw 18 = .ok (.bipush 8, 2) := by decide +kernel
theorem dX12_draw_20 : decode cX12_draw 20 = .ok (.iushr, 1) := by decide +kernel
theorem dX12_draw_21 : decode cX12_draw 21 = .ok (.iload_n 1, 1) := by decide +kernel
theorem dX12_draw_22 : decode cX12_draw 22 = .ok (.irem, 1) := by decide +kernel
theorem dX12_draw_23 : decode cX12_draw 23 = .ok (.ireturn, 1) := by decide +kernel
theorem dX12_isOne_0 : decode cX12_isOne 0 = .ok (.iload_n 1, 1) := by decide +kernel
theorem dX12_isOne_1 : decode cX12_isOne 1 = .ok (.ifCond .lt 15, 3) := by decide +kernel
theorem dX12_isOne_4 : decode cX12_isOne 4 = .ok (.iload_n 1, 1) := by decide +kernel
theorem dX12_isOne_5 : decode cX12_isOne 5 = .ok (.aload_n 0, 1) := by decide +kernel
theorem dX12_isOne_6 : decode cX12_isOne 6 = .ok (.getfield 154, 3) := by decide +kernel
theorem dX12_isOne_9 : decode cX12_isOne 9 = .ok (.if_icmp .ge 7, 3) := by decide +kernel
theorem dX12_isOne_12 : decode cX12_isOne 12 = .ok (.iconst 1, 1) := by decide +kernel
theorem dX12_isOne_13 : decode cX12_isOne 13 = .ok (.goto 4, 3) := by decide +kernel
theorem dX12_isOne_16 : decode cX12_isOne 16 = .ok (.iconst 0, 1) := by decide +kernel
theorem dX12_isOne_17 : decode cX12_isOne 17 = .ok (.ireturn, 1) := by decide +kernel
theorem dX12_movesName_0 : decode cX12_movesName 0 = .ok (.aload_n 0, 1) := by decide +kernel
theorem dX12_movesName_1 : decode cX12_movesName 1 = .ok (.getfield 7, 3) := by decide +kernel
theorem dX12_movesName_4 : decode cX12_movesName 4 = .ok (.iload_n 2, 1) := by decide +kernel
theorem dX12_movesName_5 : decode cX12_movesName 5 = .ok (.aload_n 0, 1) := by decide +kernel
theorem dX12_movesName_6 : decode cX12_movesName 6 = .ok (.getfield 7, 3) := by decide +kernel
theorem dX12_movesName_9 : decode cX12_movesName 9 = .ok (.iload_n 1, 1) := by decide +kernel
theorem dX12_movesName_10 : decode cX12_movesName 10 = .ok (.iaload, 1) := by decide +kernel
theorem dX12_movesName_11 : decode cX12_movesName 11 = .ok (.iastore, 1) := by decide +kernel
theorem dX12_movesName_12 : decode cX12_movesName 12 = .ok (.iconst 0, 1) := by decide +kernel
theorem dX12_movesName_13 : decode cX12_movesName 13 = .ok (.istore_n 3, 1) := by decide +kernel
theorem dX12_movesName_14 : decode cX12_movesName 14 = .ok (.iload_n 3, 1) := by decide +kernel
theorem dX12_movesName_15 : decode cX12_movesName 15 = .ok (.bipush 6, 2) := by decide +kernel
theorem dX12_movesName_17 : decode cX12_movesName 17 = .ok (.if_icmp .ge 31, 3) := by decide +kernel
theorem dX12_movesName_20 : decode cX12_movesName 20 = .ok (.aload_n 0, 1) := by decide +kernel
theorem dX12_movesName_21 : decode cX12_movesName 21 = .ok (.getfield 13, 3) := by decide +kernel
theorem dX12_movesName_24 : decode cX12_movesName 24 = .ok (.bipush 6, 2) := by decide +kernel
theorem dX12_movesName_26 : decode cX12_movesName 26 = .ok (.iload_n 2, 1) := by decide +kernel
theorem dX12_movesName_27 : decode cX12_movesName 27 = .ok (.imul, 1) := by decide +kernel
theorem dX12_movesName_28 : decode cX12_movesName 28 = .ok (.iload_n 3, 1) := by decide +kernel
theorem dX12_movesName_29 : decode cX12_movesName 29 = .ok (.iadd, 1) := by decide +kernel
theorem dX12_movesName_30 : decode cX12_movesName 30 = .ok (.aload_n 0, 1) := by decide +kernel
theorem dX12_movesName_31 : decode cX12_movesName 31 = .ok (.getfield 13, 3) := by decide +kernel
theorem dX12_movesName_34 : decode cX12_movesName 34 = .ok (.bipush 6, 2) := by decide +kernel
theorem dX12_movesName_36 : decode cX12_movesName 36 = .ok (.iload_n 1, 1) := by decide +kernel
theorem dX12_movesName_37 : decode cX12_movesName 37 = .ok (.imul, 1) := by decide +kernel
theorem dX12_movesName_38 : decode cX12_movesName 38 = .ok (.iload_n 3, 1) := by decide +kernel
theorem dX12_movesName_39 : decode cX12_movesName 39 = .ok (.iadd, 1) := by decide +kernel
theorem dX12_movesName_40 : decode cX12_movesName 40 = .ok (.iaload, 1) := by decide +kernel
theorem dX12_movesName_41 : decode cX12_movesName 41 = .ok (.iastore, 1) := by decide +kernel
theorem dX12_movesName_42 : decode cX12_movesName 42 = .ok (.iinc 3 1, 3) := by decide +kernel
theorem dX12_movesName_45 : decode cX12_movesName 45 = .ok (.goto (-31), 3) := by decide +kernel
theorem dX12_movesName_48 : decode cX12_movesName 48 = .ok (.return_, 1) := by decide +kernel
theorem dX12_areLike_0 : decode cX12_areLike 0 = .ok (.aload_n 0, 1) := by decide +kernel
theorem dX12_areLike_1 : decode cX12_areLike 1 = .ok (.getfield 7, 3) := by decide +kernel
theorem dX12_areLike_4 : decode cX12_areLike 4 = .ok (.iload_n 1, 1) := by decide +kernel
theorem dX12_areLike_5 : decode cX12_areLike 5 = .ok (.iaload, 1) := by decide +kernel
theorem dX12_areLike_6 : decode cX12_areLike 6 = .ok (.aload_n 0, 1) := by decide +kernel
theorem dX12_areLike_7 : decode cX12_areLike 7 = .ok (.getfield 7, 3) := by decide +kernel
theorem dX12_areLike_10 : decode cX12_areLike 10 = .ok (.iload_n 2, 1) := by decide +kernel
theorem dX12_areLike_11 : decode cX12_areLike 11 = .ok (.iaload, 1) := by decide +kernel
theorem dX12_areLike_12 : decode cX12_areLike 12 = .ok (.if_icmp .eq 5, 3) := by decide +kernel
theorem dX12_areLike_15 : decode cX12_areLike 15 = .ok (.iconst 0, 1) := by decide +kernel
theorem dX12_areLike_16 : decode cX12_areLike 16 = .ok (.ireturn, 1) := by decide +kernel
theorem dX12_areLike_17 : decode cX12_areLike 17 = .ok (.iconst 0, 1) := by decide +kernel
theorem dX12_areLike_18 : decode cX12_areLike 18 = .ok (.istore_n 3, 1) := by decide +kernel
theorem dX12_areLike_19 : decode cX12_areLike 19 = .ok (.iload_n 3, 1) := by decide +kernel
theorem dX12_areLike_20 : decode cX12_areLike 20 = .ok (.aload_n 0, 1) := by decide +kernel
theorem dX12_areLike_21 : decode cX12_areLike 21 = .ok (.getfield 7, 3) := by decide +kernel
theorem dX12_areLike_24 : decode cX12_areLike 24 = .ok (.iload_n 1, 1) := by decide +kernel
theorem dX12_areLike_25 : decode cX12_areLike 25 = .ok (.iaload, 1) := by decide +kernel
theorem dX12_areLike_26 : decode cX12_areLike 26 = .ok (.if_icmp .ge 36, 3) := by decide +kernel
theorem dX12_areLike_29 : decode cX12_areLike 29 = .ok (.aload_n 0, 1) := by decide +kernel
theorem dX12_areLike_30 : decode cX12_areLike 30 = .ok (.getfield 13, 3) := by decide +kernel
theorem dX12_areLike_33 : decode cX12_areLike 33 = .ok (.bipush 6, 2) := by decide +kernel
theorem dX12_areLike_35 : decode cX12_areLike 35 = .ok (.iload_n 1, 1) := by decide +kernel
theorem dX12_areLike_36 : decode cX12_areLike 36 = .ok (.imul, 1) := by decide +kernel
theorem dX12_areLike_37 : decode cX12_areLike 37 = .ok (.iload_n 3, 1) := by decide +kernel
theorem dX12_areLike_38 : decode cX12_areLike 38 = .ok (.iadd, 1) := by decide +kernel
theorem dX12_areLike_39 : decode cX12_areLike 39 = .ok (.iaload, 1) := by decide +kernel
theorem dX12_areLike_40 : decode cX12_areLike 40 = .ok (.aload_n 0, 1) := by decide +kernel
theorem dX12_areLike_41 : decode cX12_areLike 41 = .ok (.getfield 13, 3) := by decide +kernel
theorem dX12_areLike_44 : decode cX12_areLike 44 = .ok (.bipush 6, 2) := by decide +kernel
theorem dX12_areLike_46 : decode cX12_areLike 46 = .ok (.iload_n 2, 1) := by decide +kernel
theorem dX12_areLike_47 : decode cX12_areLike 47 = .ok (.imul, 1) := by decide +kernel
theorem dX12_areLike_48 : decode cX12_areLike 48 = .ok (.iload_n 3, 1) := by decide +kernel
theorem dX12_areLike_49 : decode cX12_areLike 49 = .ok (.iadd, 1) := by decide +kernel
theorem dX12_areLike_50 : decode cX12_areLike 50 = .ok (.iaload, 1) := by decide +kernel
theorem dX12_areLike_51 : decode cX12_areLike 51 = .ok (.if_icmp .eq 5, 3) := by decide +kernel
theorem dX12_areLike_54 : decode cX12_areLike 54 = .ok (.iconst 0, 1) := by decide +kernel
theorem dX12_areLike_55 : decode cX12_areLike 55 = .ok (.ireturn, 1) := by decide +kernel
theorem dX12_areLike_56 : decode cX12_areLike 56 = .ok (.iinc 3 1, 3) := by decide +kernel
theorem dX12_areLike_59 : decode cX12_areLike 59 = .ok (.goto (-40), 3) := by decide +kernel
theorem dX12_areLike_62 : decode cX12_areLike 62 = .ok (.iconst 1, 1) := by decide +kernel
theorem dX12_areLike_63 : decode cX12_areLike 63 = .ok (.ireturn, 1) := by decide +kernel
theorem dX12_takesName_0 : decode cX12_takesName 0 = .ok (.aload_n 0, 1) := by decide +kernel
theorem dX12_takesName_1 : decode cX12_takesName 1 = .ok (.getfield 157, 3) := by decide +kernel
theorem dX12_takesName_4 : decode cX12_takesName 4 = .ok (.istore_n 1, 1) := by decide +kernel
theorem dX12_takesName_5 : decode cX12_takesName 5 = .ok (.aload_n 0, 1) := by decide +kernel
theorem dX12_takesName_6 : decode cX12_takesName 6 = .ok (.iconst 0, 1) := by decide +kernel
theorem dX12_takesName_7 : decode cX12_takesName 7 = .ok (.putfield 157, 3) := by decide +kernel
theorem dX12_takesName_10 : decode cX12_takesName 10 = .ok (.iload_n 1, 1) := by decide +kernel
theorem dX12_takesName_11 : decode cX12_takesName 11 = .ok (.bipush 6, 2) := by decide +kernel
theorem dX12_takesName_13 : decode cX12_takesName 13 = .ok (.if_icmp .le 5, 3) := by decide +kernel
theorem dX12_takesName_16 : decode cX12_takesName 16 = .ok (.iconst 0, 1) := by decide +kernel
theorem dX12_takesName_17 : decode cX12_takesName 17 = .ok (.ireturn, 1) := by decide +kernel
theorem dX12_takesName_18 : decode cX12_takesName 18 = .ok (.iconst 0, 1) := by decide +kernel
theorem dX12_takesName_19 : decode cX12_takesName 19 = .ok (.istore_n 2, 1) := by decide +kernel
theorem dX12_takesName_20 : decode cX12_takesName 20 = .ok (.iload_n 2, 1) := by decide +kernel
theorem dX12_takesName_21 : decode cX12_takesName 21 = .ok (.iload_n 1, 1) := by decide +kernel
theorem dX12_takesName_22 : decode cX12_takesName 22 = .ok (.if_icmp .ge 28, 3) := by decide +kernel
theorem dX12_takesName_25 : decode cX12_takesName 25 = .ok (.aload_n 0, 1) := by decide +kernel
theorem dX12_takesName_26 : decode cX12_takesName 26 = .ok (.aload_n 0, 1) := by decide +kernel
theorem dX12_takesName_27 : decode cX12_takesName 27 = .ok (.getfield 59, 3) := by decide +kernel
theorem dX12_takesName_30 : decode cX12_takesName 30 = .ok (.iload_n 2, 1) := by decide +kernel
theorem dX12_takesName_31 : decode cX12_takesName 31 = .ok (.iaload, 1) := by decide +kernel
theorem dX12_takesName_32 : decode cX12_takesName 32 = .ok (.bipush 97, 2) := by decide +kernel
theorem dX12_takesName_34 : decode cX12_takesName 34 = .ok (.bipush 122, 2) := by decide +kernel
theorem dX12_takesName_36 : decode cX12_takesName 36 = .ok (.invokevirtual 160, 3) := by decide +kernel
theorem dX12_takesName_39 : decode cX12_takesName 39 = .ok (.ifCond .ne 5, 3) := by decide +kernel
theorem dX12_takesName_42 : decode cX12_takesName 42 = .ok (.iconst 0, 1) := by decide +kernel
theorem dX12_takesName_43 : decode cX12_takesName 43 = .ok (.ireturn, 1) := by decide +kernel
theorem dX12_takesName_44 : decode cX12_takesName 44 = .ok (.iinc 2 1, 3) := by decide +kernel
theorem dX12_takesName_47 : decode cX12_takesName 47 = .ok (.goto (-27), 3) := by decide +kernel
theorem dX12_takesName_50 : decode cX12_takesName 50 = .ok (.aload_n 0, 1) := by decide +kernel
theorem dX12_takesName_51 : decode cX12_takesName 51 = .ok (.getfield 7, 3) := by decide +kernel
theorem dX12_takesName_54 : decode cX12_takesName 54 = .ok (.bipush 30, 2) := by decide +kernel
theorem dX12_takesName_56 : decode cX12_takesName 56 = .ok (.iload_n 1, 1) := by decide +kernel
theorem dX12_takesName_57 : decode cX12_takesName 57 = .ok (.iastore, 1) := by decide +kernel
theorem dX12_takesName_58 : decode cX12_takesName 58 = .ok (.iconst 0, 1) := by decide +kernel
theorem dX12_takesName_59 : decode cX12_takesName 59 = .ok (.istore_n 2, 1) := by decide +kernel
theorem dX12_takesName_60 : decode cX12_takesName 60 = .ok (.iload_n 2, 1) := by decide +kernel
theorem dX12_takesName_61 : decode cX12_takesName 61 = .ok (.iload_n 1, 1) := by decide +kernel
theorem dX12_takesName_62 : decode cX12_takesName 62 = .ok (.if_icmp .ge 28, 3) := by decide +kernel
theorem dX12_takesName_65 : decode cX12_takesName 65 = .ok (.aload_n 0, 1) := by decide +kernel
theorem dX12_takesName_66 : decode cX12_takesName 66 = .ok (.getfield 13, 3) := by decide +kernel
theorem dX12_takesName_69 : decode cX12_takesName 69 = .ok (.sipush 180, 3) := by decide +kernel
theorem dX12_takesName_72 : decode cX12_takesName 72 = .ok (.iload_n 2, 1) := by decide +kernel
theorem dX12_takesName_73 : decode cX12_takesName 73 = .ok (.iadd, 1) := by decide +kernel
theorem dX12_takesName_74 : decode cX12_takesName 74 = .ok (.aload_n 0, 1) := by decide +kernel
theorem dX12_takesName_75 : decode cX12_takesName 75 = .ok (.getfield 59, 3) := by decide +kernel
theorem dX12_takesName_78 : decode cX12_takesName 78 = .ok (.iload_n 2, 1) := by decide +kernel
theorem dX12_takesName_79 : decode cX12_takesName 79 = .ok (.iaload, 1) := by decide +kernel
theorem dX12_takesName_80 : decode cX12_takesName 80 = .ok (.bipush 97, 2) := by decide +kernel
theorem dX12_takesName_82 : decode cX12_takesName 82 = .ok (.isub, 1) := by decide +kernel
theorem dX12_takesName_83 : decode cX12_takesName 83 = .ok (.iastore, 1) := by decide +kernel
theorem dX12_takesName_84 : decode cX12_takesName 84 = .ok (.iinc 2 1, 3) := by decide +kernel
theorem dX12_takesName_87 : decode cX12_takesName 87 = .ok (.goto (-27), 3) := by decide +kernel
theorem dX12_takesName_90 : decode cX12_takesName 90 = .ok (.iconst 1, 1) := by decide +kernel
theorem dX12_takesName_91 : decode cX12_takesName 91 = .ok (.ireturn, 1) := by decide +kernel
theorem dX12_begins_0 : decode cX12_begins 0 = .ok (.aload_n 0, 1) := by decide +kernel
theorem dX12_begins_1 : decode cX12_begins 1 = .ok (.getfield 164, 3) := by decide +kernel
theorem dX12_begins_4 : decode cX12_begins 4 = .ok (.ifCond .eq 4, 3) := by decide +kernel
theorem dX12_begins_7 : decode cX12_begins 7 = .ok (.return_, 1) := by decide +kernel
theorem dX12_begins_8 : decode cX12_begins 8 = .ok (.aload_n 0, 1) := by decide +kernel
theorem dX12_begins_9 : decode cX12_begins 9 = .ok (.iconst 1, 1) := by decide +kernel
theorem dX12_begins_10 : decode cX12_begins 10 = .ok (.putfield 164, 3) := by decide +kernel
theorem dX12_begins_13 : decode cX12_begins 13 = .ok (.iconst 0, 1) := by decide +kernel
theorem dX12_begins_14 : decode cX12_begins 14 = .ok (.istore_n 1, 1) := by decide +kernel
theorem dX12_begins_15 : decode cX12_begins 15 = .ok (.iload_n 1, 1) := by decide +kernel
theorem dX12_begins_16 : decode cX12_begins 16 = .ok (.bipush 8, 2) := by decide +kernel
theorem dX12_begins_18 : decode cX12_begins 18 = .ok (.if_icmp .ge 16, 3) := by decide +kernel
theorem dX12_begins_21 : decode cX12_begins 21 = .ok (.aload_n 0, 1) := by decide +kernel
theorem dX12_begins_22 : decode cX12_begins 22 = .ok (.getfield 29, 3) := by decide +kernel
theorem dX12_begins_25 : decode cX12_begins 25 = .ok (.iload_n 1, 1) := by decide +kernel
theorem dX12_begins_26 : decode cX12_begins 26 = .ok (.iload_n 1, 1) := by decide +kernel
theorem dX12_begins_27 : decode cX12_begins 27 = .ok (.iastore, 1) := by decide +kernel
theorem dX12_begins_28 : decode cX12_begins 28 = .ok (.iinc 1 1, 3) := by decide +kernel
theorem dX12_begins_31 : decode cX12_begins 31 = .ok (.goto (-16), 3) := by decide +kernel
theorem dX12_begins_34 : decode cX12_begins 34 = .ok (.return_, 1) := by decide +kernel
theorem dX12_movesOrder_0 : decode cX12_movesOrder 0 = .ok (.iconst 0, 1) := by decide +kernel
theorem dX12_movesOrder_1 : decode cX12_movesOrder 1 = .ok (.istore_n 3, 1) := by decide +kernel
theorem dX12_movesOrder_2 : decode cX12_movesOrder 2 = .ok (.iload_n 3, 1) := by decide +kernel
theorem dX12_movesOrder_3 : decode cX12_movesOrder 3 = .ok (.bipush 8, 2) := by decide +kernel
theorem dX12_movesOrder_5 : decode cX12_movesOrder 5 = .ok (.if_icmp .ge 31, 3) := by decide +kernel
theorem dX12_movesOrder_8 : decode cX12_movesOrder 8 = .ok (.aload_n 0, 1) := by decide +kernel
theorem dX12_movesOrder_9 : decode cX12_movesOrder 9 = .ok (.getfield 29, 3) := by decide +kernel
theorem dX12_movesOrder_12 : decode cX12_movesOrder 12 = .ok (.bipush 8, 2) := by decide +kernel
theorem dX12_movesOrder_14 : decode cX12_movesOrder 14 = .ok (.iload_n 2, 1) := by decide +kernel
theorem dX12_movesOrder_15 : decode cX12_movesOrder 15 = .ok (.imul, 1) := by decide +kernel
theorem dX12_movesOrder_16 : decode cX12_movesOrder 16 = .ok (.iload_n 3, 1) := by decide +kernel
theorem dX12_movesOrder_17 : decode cX12_movesOrder 17 = .ok (.iadd, 1) := by decide +kernel
theorem dX12_movesOrder_18 : decode cX12_movesOrder 18 = .ok (.aload_n 0, 1) := by decide +kernel
theorem dX12_movesOrder_19 : decode cX12_movesOrder 19 = .ok (.getfield 29, 3) := by decide +kernel
theorem dX12_movesOrder_22 : decode cX12_movesOrder 22 = .ok (.bipush 8, 2) := by decide +kernel
theorem dX12_movesOrder_24 : decode cX12_movesOrder 24 = .ok (.iload_n 1, 1) := by decide +kernel
theorem dX12_movesOrder_25 : decode cX12_movesOrder 25 = .ok (.imul, 1) := by decide +kernel
theorem dX12_movesOrder_26 : decode cX12_movesOrder 26 = .ok (.iload_n 3, 1) := by decide +kernel
theorem dX12_movesOrder_27 : decode cX12_movesOrder 27 = .ok (.iadd, 1) := by decide +kernel
theorem dX12_movesOrder_28 : decode cX12_movesOrder 28 = .ok (.iaload, 1) := by decide +kernel
theorem dX12_movesOrder_29 : decode cX12_movesOrder 29 = .ok (.iastore, 1) := by decide +kernel
theorem dX12_movesOrder_30 : decode cX12_movesOrder 30 = .ok (.iinc 3 1, 3) := by decide +kernel
theorem dX12_movesOrder_33 : decode cX12_movesOrder 33 = .ok (.goto (-31), 3) := by decide +kernel
theorem dX12_movesOrder_36 : decode cX12_movesOrder 36 = .ok (.return_, 1) := by decide +kernel
theorem dX12_takesOrder_0 : decode cX12_takesOrder 0 = .ok (.aload_n 0, 1) := by decide +kernel
theorem dX12_takesOrder_1 : decode cX12_takesOrder 1 = .ok (.invokevirtual 168, 3) := by decide +kernel
theorem dX12_takesOrder_4 : decode cX12_takesOrder 4 = .ok (.aload_n 0, 1) := by decide +kernel
theorem dX12_takesOrder_5 : decode cX12_takesOrder 5 = .ok (.getfield 157, 3) := by decide +kernel
theorem dX12_takesOrder_8 : decode cX12_takesOrder 8 = .ok (.istore_n 1, 1) := by decide +kernel
theorem dX12_takesOrder_9 : decode cX12_takesOrder 9 = .ok (.aload_n 0, 1) := by decide +kernel
theorem dX12_takesOrder_10 : decode cX12_takesOrder 10 = .ok (.iconst 0, 1) := by decide +kernel
theorem dX12_takesOrder_11 : decode cX12_takesOrder 11 = .ok (.putfield 157, 3) := by decide +kernel
theorem dX12_takesOrder_14 : decode cX12_takesOrder 14 = .ok (.iload_n 1, 1) := by decide +kernel
theorem dX12_takesOrder_15 : decode cX12_takesOrder 15 = .ok (.aload_n 0, 1) := by decide +kernel
theorem dX12_takesOrder_16 : decode cX12_takesOrder 16 = .ok (.getfield 25, 3) := by decide +kernel
theorem dX12_takesOrder_19 : decode cX12_takesOrder 19 = .ok (.if_icmp .eq 5, 3) := by decide +kernel
theorem dX12_takesOrder_22 : decode cX12_takesOrder 22 = .ok (.iconst 0, 1) := by decide +kernel
theorem dX12_takesOrder_23 : decode cX12_takesOrder 23 = .ok (.ireturn, 1) := by decide +kernel
theorem dX12_takesOrder_24 : decode cX12_takesOrder 24 = .ok (.iconst 0, 1) := by decide +kernel
theorem dX12_takesOrder_25 : decode cX12_takesOrder 25 = .ok (.istore_n 2, 1) := by decide +kernel
theorem dX12_takesOrder_26 : decode cX12_takesOrder 26 = .ok (.iconst 0, 1) := by decide +kernel
theorem dX12_takesOrder_27 : decode cX12_takesOrder 27 = .ok (.istore_n 3, 1) := by decide +kernel
theorem dX12_takesOrder_28 : decode cX12_takesOrder 28 = .ok (.iload_n 3, 1) := by decide +kernel
theorem dX12_takesOrder_29 : decode cX12_takesOrder 29 = .ok (.iload_n 1, 1) := by decide +kernel
theorem dX12_takesOrder_30 : decode cX12_takesOrder 30 = .ok (.if_icmp .ge 53, 3) := by decide +kernel
theorem dX12_takesOrder_33 : decode cX12_takesOrder 33 = .ok (.aload_n 0, 1) := by decide +kernel
theorem dX12_takesOrder_34 : decode cX12_takesOrder 34 = .ok (.getfield 59, 3) := by decide +kernel
theorem dX12_takesOrder_37 : decode cX12_takesOrder 37 = .ok (.iload_n 3, 1) := by decide +kernel
theorem dX12_takesOrder_38 : decode cX12_takesOrder 38 = .ok (.iaload, 1) := by decide +kernel
theorem dX12_takesOrder_39 : decode cX12_takesOrder 39 = .ok (.bipush 97, 2) := by decide +kernel
theorem dX12_takesOrder_41 : decode cX12_takesOrder 41 = .ok (.isub, 1) := by decide +kernel
theorem dX12_takesOrder_42 : decode cX12_takesOrder 42 = .ok (.istore 4, 2) := by decide +kernel
theorem dX12_takesOrder_44 : decode cX12_takesOrder 44 = .ok (.iload 4, 2) := by decide +kernel
theorem dX12_takesOrder_46 : decode cX12_takesOrder 46 = .ok (.ifCond .lt 22, 3) := by decide +kernel
theorem dX12_takesOrder_49 : decode cX12_takesOrder 49 = .ok (.iload 4, 2) := by decide +kernel
theorem dX12_takesOrder_51 : decode cX12_takesOrder 51 = .ok (.aload_n 0, 1) := by decide +kernel
theorem dX12_takesOrder_52 : decode cX12_takesOrder 52 = .ok (.getfield 25, 3) := by decide +kernel
theorem dX12_takesOrder_55 : decode cX12_takesOrder 55 = .ok (.if_icmp .ge 13, 3) := by decide +kernel
theorem dX12_takesOrder_58 : decode cX12_takesOrder 58 = .ok (.iload_n 2, 1) := by decide +kernel
theorem dX12_takesOrder_59 : decode cX12_takesOrder 59 = .ok (.iload 4, 2) := by decide +kernel
theorem dX12_takesOrder_61 : decode cX12_takesOrder 61 = .ok (.ishr, 1) := by decide +kernel
theorem dX12_takesOrder_62 : decode cX12_takesOrder 62 = .ok (.iconst 1, 1) := by decide +kernel
theorem dX12_takesOrder_63 : decode cX12_takesOrder 63 = .ok (.iand, 1) := by decide +kernel
theorem dX12_takesOrder_64 : decode cX12_takesOrder 64 = .ok (.iconst 1, 1) := by decide +kernel
theorem dX12_takesOrder_65 : decode cX12_takesOrder 65 = .ok (.if_icmp .ne 5, 3) := by decide +kernel
theorem dX12_takesOrder_68 : decode cX12_takesOrder 68 = .ok (.iconst 0, 1) := by decide +kernel
theorem dX12_takesOrder_69 : decode cX12_takesOrder 69 = .ok (.ireturn, 1) := by decide +kernel
theorem dX12_takesOrder_70 : decode cX12_takesOrder 70 = .ok (.iload_n 2, 1) := by decide +kernel
theorem dX12_takesOrder_71 : decode cX12_takesOrder 71 = .ok (.iconst 1, 1) := by decide +kernel
theorem dX12_takesOrder_72 : decode cX12_takesOrder 72 = .ok (.iload 4, 2) := by decide +kernel
theorem dX12_takesOrder_74 : decode cX12_takesOrder 74 = .ok (.ishl, 1) := by decide +kernel
theorem dX12_takesOrder_75 : decode cX12_takesOrder 75 = .ok (.ior, 1) := by decide +kernel
theorem dX12_takesOrder_76 : decode cX12_takesOrder 76 = .ok (.istore_n 2, 1) := by decide +kernel
theorem dX12_takesOrder_77 : decode cX12_takesOrder 77 = .ok (.iinc 3 1, 3) := by decide +kernel
theorem dX12_takesOrder_80 : decode cX12_takesOrder 80 = .ok (.goto (-52), 3) := by decide +kernel
theorem dX12_takesOrder_83 : decode cX12_takesOrder 83 = .ok (.iconst 0, 1) := by decide +kernel
theorem dX12_takesOrder_84 : decode cX12_takesOrder 84 = .ok (.istore_n 3, 1) := by decide +kernel
theorem dX12_takesOrder_85 : decode cX12_takesOrder 85 = .ok (.iload_n 3, 1) := by decide +kernel
theorem dX12_takesOrder_86 : decode cX12_takesOrder 86 = .ok (.iload_n 1, 1) := by decide +kernel
theorem dX12_takesOrder_87 : decode cX12_takesOrder 87 = .ok (.if_icmp .ge 28, 3) := by decide +kernel
theorem dX12_takesOrder_90 : decode cX12_takesOrder 90 = .ok (.aload_n 0, 1) := by decide +kernel
theorem dX12_takesOrder_91 : decode cX12_takesOrder 91 = .ok (.getfield 29, 3) := by decide +kernel
theorem dX12_takesOrder_94 : decode cX12_takesOrder 94 = .ok (.sipush 152, 3) := by decide +kernel
theorem dX12_takesOrder_97 : decode cX12_takesOrder 97 = .ok (.iload_n 3, 1) := by decide +kernel
theorem dX12_takesOrder_98 : decode cX12_takesOrder 98 = .ok (.iadd, 1) := by decide +kernel
theorem dX12_takesOrder_99 : decode cX12_takesOrder 99 = .ok (.aload_n 0, 1) := by decide +kernel
theorem dX12_takesOrder_100 : decode cX12_takesOrder 100 = .ok (.getfield 59, 3) := by decide +kernel
theorem dX12_takesOrder_103 : decode cX12_takesOrder 103 = .ok (.iload_n 3, 1) := by decide +kernel
theorem dX12_takesOrder_104 : decode cX12_takesOrder 104 = .ok (.iaload, 1) := by decide +kernel
theorem dX12_takesOrder_105 : decode cX12_takesOrder 105 = .ok (.bipush 97, 2) := by decide +kernel
theorem dX12_takesOrder_107 : decode cX12_takesOrder 107 = .ok (.isub, 1) := by decide +kernel
theorem dX12_takesOrder_108 : decode cX12_takesOrder 108 = .ok (.iastore, 1) := by decide +kernel
theorem dX12_takesOrder_109 : decode cX12_takesOrder 109 = .ok (.iinc 3 1, 3) := by decide +kernel
theorem dX12_takesOrder_112 : decode cX12_takesOrder 112 = .ok (.goto (-27), 3) := by decide +kernel
theorem dX12_takesOrder_115 : decode cX12_takesOrder 115 = .ok (.iconst 1, 1) := by decide +kernel
theorem dX12_takesOrder_116 : decode cX12_takesOrder 116 = .ok (.ireturn, 1) := by decide +kernel
theorem dX12_letters_0 : decode cX12_letters 0 = .ok (.aload_n 0, 1) := by decide +kernel
theorem dX12_letters_1 : decode cX12_letters 1 = .ok (.iconst 0, 1) := by decide +kernel
theorem dX12_letters_2 : decode cX12_letters 2 = .ok (.putfield 146, 3) := by decide +kernel
theorem dX12_letters_5 : decode cX12_letters 5 = .ok (.aload_n 0, 1) := by decide +kernel
theorem dX12_letters_6 : decode cX12_letters 6 = .ok (.iload_n 1, 1) := by decide +kernel
theorem dX12_letters_7 : decode cX12_letters 7 = .ok (.iconst 2, 1) := by decide +kernel
theorem dX12_letters_8 : decode cX12_letters 8 = .ok (.bipush 8, 2) := by decide +kernel
theorem dX12_letters_10 : decode cX12_letters 10 = .ok (.invokevirtual 160, 3) := by decide +kernel
theorem dX12_letters_13 : decode cX12_letters 13 = .ok (.ifCond .ne 5, 3) := by decide +kernel
theorem dX12_letters_16 : decode cX12_letters 16 = .ok (.iconst 0, 1) := by decide +kernel
theorem dX12_letters_17 : decode cX12_letters 17 = .ok (.ireturn, 1) := by decide +kernel
theorem dX12_letters_18 : decode cX12_letters 18 = .ok (.aload_n 0, 1) := by decide +kernel
theorem dX12_letters_19 : decode cX12_letters 19 = .ok (.iconst 0, 1) := by decide +kernel
theorem dX12_letters_20 : decode cX12_letters 20 = .ok (.putfield 164, 3) := by decide +kernel
theorem dX12_letters_23 : decode cX12_letters 23 = .ok (.aload_n 0, 1) := by decide +kernel
theorem dX12_letters_24 : decode cX12_letters 24 = .ok (.invokevirtual 168, 3) := by decide +kernel
theorem dX12_letters_27 : decode cX12_letters 27 = .ok (.aload_n 0, 1) := by decide +kernel
theorem dX12_letters_28 : decode cX12_letters 28 = .ok (.iload_n 1, 1) := by decide +kernel
theorem dX12_letters_29 : decode cX12_letters 29 = .ok (.putfield 25, 3) := by decide +kernel
theorem dX12_letters_32 : decode cX12_letters 32 = .ok (.aload_n 0, 1) := by decide +kernel
theorem dX12_letters_33 : decode cX12_letters 33 = .ok (.iconst 0, 1) := by decide +kernel
theorem dX12_letters_34 : decode cX12_letters 34 = .ok (.putfield 154, 3) := by decide +kernel
theorem dX12_letters_37 : decode cX12_letters 37 = .ok (.aload_n 0, 1) := by decide +kernel
theorem dX12_letters_38 : decode cX12_letters 38 = .ok (.iconst 0, 1) := by decide +kernel
theorem dX12_letters_39 : decode cX12_letters 39 = .ok (.putfield 171, 3) := by decide +kernel
theorem dX12_letters_42 : decode cX12_letters 42 = .ok (.aload_n 0, 1) := by decide +kernel
theorem dX12_letters_43 : decode cX12_letters 43 = .ok (.iconst 0, 1) := by decide +kernel
theorem dX12_letters_44 : decode cX12_letters 44 = .ok (.putfield 174, 3) := by decide +kernel
theorem dX12_letters_47 : decode cX12_letters 47 = .ok (.aload_n 0, 1) := by decide +kernel
theorem dX12_letters_48 : decode cX12_letters 48 = .ok (.iconst 0, 1) := by decide +kernel
theorem dX12_letters_49 : decode cX12_letters 49 = .ok (.putfield 177, 3) := by decide +kernel
theorem dX12_letters_52 : decode cX12_letters 52 = .ok (.aload_n 0, 1) := by decide +kernel
theorem dX12_letters_53 : decode cX12_letters 53 = .ok (.iconst 0, 1) := by decide +kernel
theorem dX12_letters_54 : decode cX12_letters 54 = .ok (.putfield 180, 3) := by decide +kernel
theorem dX12_letters_57 : decode cX12_letters 57 = .ok (.iconst 0, 1) := by decide +kernel
theorem dX12_letters_58 : decode cX12_letters 58 = .ok (.istore_n 2, 1) := by decide +kernel
theorem dX12_letters_59 : decode cX12_letters 59 = .ok (.iload_n 2, 1) := by decide +kernel
theorem dX12_letters_60 : decode cX12_letters 60 = .ok (.bipush 7, 2) := by decide +kernel
theorem dX12_letters_62 : decode cX12_letters 62 = .ok (.if_icmp .ge 31, 3) := by decide +kernel
theorem dX12_letters_65 : decode cX12_letters 65 = .ok (.aload_n 0, 1) := by decide +kernel
theorem dX12_letters_66 : decode cX12_letters 66 = .ok (.getfield 32, 3) := by decide +kernel
theorem dX12_letters_69 : decode cX12_letters 69 = .ok (.iload_n 2, 1) := by decide +kernel
theorem dX12_letters_70 : decode cX12_letters 70 = .ok (.iload_n 2, 1) := by decide +kernel
theorem dX12_letters_71 : decode cX12_letters 71 = .ok (.iconst 1, 1) := by decide +kernel
theorem dX12_letters_72 : decode cX12_letters 72 = .ok (.if_icmp .le 13, 3) := by decide +kernel
theorem dX12_letters_75 : decode cX12_letters 75 = .ok (.iload_n 2, 1) := by decide +kernel
