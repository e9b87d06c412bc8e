theorem dX12_wed_106 : decode cX12_wed 106 = .ok (.iload 5, 2) := by decide +kernel
theorem dX12_wed_108 : decode cX12_wed 108 = .ok (.goto 5, 3) := by decide +kernel
theorem dX12_wed_111 : decode cX12_wed 111 = .ok (.iload 4, 2) := by decide +kernel
theorem dX12_wed_113 : decode cX12_wed 113 = .ok (.istore 6, 2) := by decide +kernel
theorem dX12_wed_115 : decode cX12_wed 115 = .ok (.iload_n 2, 1) := by decide +kernel
theorem dX12_wed_116 : decode cX12_wed 116 = .ok (.iconst 1, 1) := by decide +kernel
theorem dX12_wed_117 : decode cX12_wed 117 = .ok (.if_icmp .ne 8, 3) := by decide +kernel
theorem dX12_wed_120 : decode cX12_wed 120 = .ok (.iload 6, 2) := by decide +kernel
theorem dX12_wed_122 : decode cX12_wed 122 = .ok (.goto 30, 3) := by decide +kernel
theorem dX12_wed_125 : decode cX12_wed 125 = .ok (.aload_n 0, 1) := by decide +kernel
theorem dX12_wed_126 : decode cX12_wed 126 = .ok (.getfield 98, 3) := by decide +kernel
theorem dX12_wed_129 : decode cX12_wed 129 = .ok (.iload 6, 2) := by decide +kernel
theorem dX12_wed_131 : decode cX12_wed 131 = .ok (.iaload, 1) := by decide +kernel
theorem dX12_wed_132 : decode cX12_wed 132 = .ok (.aload_n 0, 1) := by decide +kernel
theorem dX12_wed_133 : decode cX12_wed 133 = .ok (.getfield 98, 3) := by decide +kernel
theorem dX12_wed_136 : decode cX12_wed 136 = .ok (.iload 6, 2) := by decide +kernel
theorem dX12_wed_138 : decode cX12_wed 138 = .ok (.iload 4, 2) := by decide +kernel
theorem dX12_wed_140 : decode cX12_wed 140 = .ok (.if_icmp .ne 8, 3) := by decide +kernel
theorem dX12_wed_143 : decode cX12_wed 143 = .ok (.iload 5, 2) := by decide +kernel
theorem dX12_wed_145 : decode cX12_wed 145 = .ok (.goto 5, 3) := by decide +kernel
theorem dX12_wed_148 : decode cX12_wed 148 = .ok (.iload 4, 2) := by decide +kernel
theorem dX12_wed_150 : decode cX12_wed 150 = .ok (.iaload, 1) := by decide +kernel
theorem dX12_wed_151 : decode cX12_wed 151 = .ok (.isub, 1) := by decide +kernel
theorem dX12_wed_152 : decode cX12_wed 152 = .ok (.ireturn, 1) := by decide +kernel
theorem dX12_voter_0 : decode cX12_voter 0 = .ok (.aload_n 0, 1) := by decide +kernel
theorem dX12_voter_1 : decode cX12_voter 1 = .ok (.iconst 0, 1) := by decide +kernel
theorem dX12_voter_2 : decode cX12_voter 2 = .ok (.putfield 146, 3) := by decide +kernel
theorem dX12_voter_5 : decode cX12_voter 5 = .ok (.aload_n 0, 1) := by decide +kernel
theorem dX12_voter_6 : decode cX12_voter 6 = .ok (.invokevirtual 195, 3) := by decide +kernel
theorem dX12_voter_9 : decode cX12_voter 9 = .ok (.istore_n 3, 1) := by decide +kernel
theorem dX12_voter_10 : decode cX12_voter 10 = .ok (.iload_n 3, 1) := by decide +kernel
theorem dX12_voter_11 : decode cX12_voter 11 = .ok (.ifCond .eq 35, 3) := by decide +kernel
theorem dX12_voter_14 : decode cX12_voter 14 = .ok (.aload_n 0, 1) := by decide +kernel
theorem dX12_voter_15 : decode cX12_voter 15 = .ok (.iload_n 1, 1) := by decide +kernel
theorem dX12_voter_16 : decode cX12_voter 16 = .ok (.iconst 1, 1) := by decide +kernel
theorem dX12_voter_17 : decode cX12_voter 17 = .ok (.bipush 9, 2) := by decide +kernel
theorem dX12_voter_19 : decode cX12_voter 19 = .ok (.invokevirtual 160, 3) := by decide +kernel
theorem dX12_voter_22 : decode cX12_voter 22 = .ok (.ifCond .eq 24, 3) := by decide +kernel
theorem dX12_voter_25 : decode cX12_voter 25 = .ok (.aload_n 0, 1) := by decide +kernel
theorem dX12_voter_26 : decode cX12_voter 26 = .ok (.iload_n 2, 1) := by decide +kernel
theorem dX12_voter_27 : decode cX12_voter 27 = .ok (.iconst 0, 1) := by decide +kernel
theorem dX12_voter_28 : decode cX12_voter 28 = .ok (.sipush 999, 3) := by decide +kernel
theorem dX12_voter_31 : decode cX12_voter 31 = .ok (.invokevirtual 160, 3) := by decide +kernel
theorem dX12_voter_34 : decode cX12_voter 34 = .ok (.ifCond .eq 12, 3) := by decide +kernel
theorem dX12_voter_37 : decode cX12_voter 37 = .ok (.aload_n 0, 1) := by decide +kernel
theorem dX12_voter_38 : decode cX12_voter 38 = .ok (.getfield 174, 3) := by decide +kernel
theorem dX12_voter_41 : decode cX12_voter 41 = .ok (.bipush 12, 2) := by decide +kernel
theorem dX12_voter_43 : decode cX12_voter 43 = .ok (.if_icmp .ne 5, 3) := by decide +kernel
theorem dX12_voter_46 : decode cX12_voter 46 = .ok (.iconst (-1), 1) := by decide +kernel
theorem dX12_voter_47 : decode cX12_voter 47 = .ok (.ireturn, 1) := by decide +kernel
theorem dX12_voter_48 : decode cX12_voter 48 = .ok (.aload_n 0, 1) := by decide +kernel
theorem dX12_voter_49 : decode cX12_voter 49 = .ok (.bipush 19, 2) := by decide +kernel
theorem dX12_voter_51 : decode cX12_voter 51 = .ok (.bipush 7, 2) := by decide +kernel
theorem dX12_voter_53 : decode cX12_voter 53 = .ok (.aload_n 0, 1) := by decide +kernel
theorem dX12_voter_54 : decode cX12_voter 54 = .ok (.getfield 174, 3) := by decide +kernel
theorem dX12_voter_57 : decode cX12_voter 57 = .ok (.iadd, 1) := by decide +kernel
theorem dX12_voter_58 : decode cX12_voter 58 = .ok (.invokevirtual 198, 3) := by decide +kernel
theorem dX12_voter_61 : decode cX12_voter 61 = .ok (.aload_n 0, 1) := by decide +kernel
theorem dX12_voter_62 : decode cX12_voter 62 = .ok (.getfield 53, 3) := by decide +kernel
theorem dX12_voter_65 : decode cX12_voter 65 = .ok (.aload_n 0, 1) := by decide +kernel
theorem dX12_voter_66 : decode cX12_voter 66 = .ok (.getfield 174, 3) := by decide +kernel
theorem dX12_voter_69 : decode cX12_voter 69 = .ok (.iload_n 1, 1) := by decide +kernel
theorem dX12_voter_70 : decode cX12_voter 70 = .ok (.iastore, 1) := by decide +kernel
theorem dX12_voter_71 : decode cX12_voter 71 = .ok (.aload_n 0, 1) := by decide +kernel
theorem dX12_voter_72 : decode cX12_voter 72 = .ok (.getfield 56, 3) := by decide +kernel
theorem dX12_voter_75 : decode cX12_voter 75 = .ok (.aload_n 0, 1) := by decide +kernel
theorem dX12_voter_76 : decode cX12_voter 76 = .ok (.getfield 174, 3) := by decide +kernel
theorem dX12_voter_79 : decode cX12_voter 79 = .ok (.iload_n 2, 1) := by decide +kernel
theorem dX12_voter_80 : decode cX12_voter 80 = .ok (.iastore, 1) := by decide +kernel
theorem dX12_voter_81 : decode cX12_voter 81 = .ok (.aload_n 0, 1) := by decide +kernel
theorem dX12_voter_82 : decode cX12_voter 82 = .ok (.aload_n 0, 1) := by decide +kernel
theorem dX12_voter_83 : decode cX12_voter 83 = .ok (.getfield 174, 3) := by decide +kernel
theorem dX12_voter_86 : decode cX12_voter 86 = .ok (.iconst 1, 1) := by decide +kernel
theorem dX12_voter_87 : decode cX12_voter 87 = .ok (.iadd, 1) := by decide +kernel
theorem dX12_voter_88 : decode cX12_voter 88 = .ok (.putfield 174, 3) := by decide +kernel
theorem dX12_voter_91 : decode cX12_voter 91 = .ok (.aload_n 0, 1) := by decide +kernel
theorem dX12_voter_92 : decode cX12_voter 92 = .ok (.getfield 174, 3) := by decide +kernel
theorem dX12_voter_95 : decode cX12_voter 95 = .ok (.iconst 1, 1) := by decide +kernel
theorem dX12_voter_96 : decode cX12_voter 96 = .ok (.isub, 1) := by decide +kernel
theorem dX12_voter_97 : decode cX12_voter 97 = .ok (.ireturn, 1) := by decide +kernel
theorem dX12_placeBy_0 : decode cX12_placeBy 0 = .ok (.aload_n 0, 1) := by decide +kernel
theorem dX12_placeBy_1 : decode cX12_placeBy 1 = .ok (.getfield 382, 3) := by decide +kernel
theorem dX12_placeBy_4 : decode cX12_placeBy 4 = .ok (.iload_n 1, 1) := by decide +kernel
theorem dX12_placeBy_5 : decode cX12_placeBy 5 = .ok (.ishr, 1) := by decide +kernel
theorem dX12_placeBy_6 : decode cX12_placeBy 6 = .ok (.iconst 1, 1) := by decide +kernel
theorem dX12_placeBy_7 : decode cX12_placeBy 7 = .ok (.iand, 1) := by decide +kernel
theorem dX12_placeBy_8 : decode cX12_placeBy 8 = .ok (.iconst 1, 1) := by decide +kernel
theorem dX12_placeBy_9 : decode cX12_placeBy 9 = .ok (.if_icmp .ne 7, 3) := by decide +kernel
theorem dX12_placeBy_12 : decode cX12_placeBy 12 = .ok (.iconst 1, 1) := by decide +kernel
theorem dX12_placeBy_13 : decode cX12_placeBy 13 = .ok (.goto 4, 3) := by decide +kernel
theorem dX12_placeBy_16 : decode cX12_placeBy 16 = .ok (.iconst 0, 1) := by decide +kernel
theorem dX12_placeBy_17 : decode cX12_placeBy 17 = .ok (.istore_n 3, 1) := by decide +kernel
theorem dX12_placeBy_18 : decode cX12_placeBy 18 = .ok (.iload_n 3, 1) := by decide +kernel
theorem dX12_placeBy_19 : decode cX12_placeBy 19 = .ok (.ifCond .eq 13, 3) := by decide +kernel
theorem dX12_placeBy_22 : decode cX12_placeBy 22 = .ok (.iload_n 2, 1) := by decide +kernel
theorem dX12_placeBy_23 : decode cX12_placeBy 23 = .ok (.aload_n 0, 1) := by decide +kernel
theorem dX12_placeBy_24 : decode cX12_placeBy 24 = .ok (.getfield 385, 3) := by decide +kernel
theorem dX12_placeBy_27 : decode cX12_placeBy 27 = .ok (.if_icmp .ne 5, 3) := by decide +kernel
theorem dX12_placeBy_30 : decode cX12_placeBy 30 = .ok (.iconst 0, 1) := by decide +kernel
theorem dX12_placeBy_31 : decode cX12_placeBy 31 = .ok (.ireturn, 1) := by decide +kernel
theorem dX12_placeBy_32 : decode cX12_placeBy 32 = .ok (.iconst 0, 1) := by decide +kernel
theorem dX12_placeBy_33 : decode cX12_placeBy 33 = .ok (.istore 4, 2) := by decide +kernel
theorem dX12_placeBy_35 : decode cX12_placeBy 35 = .ok (.iconst 0, 1) := by decide +kernel
theorem dX12_placeBy_36 : decode cX12_placeBy 36 = .ok (.istore 5, 2) := by decide +kernel
theorem dX12_placeBy_38 : decode cX12_placeBy 38 = .ok (.iconst 0, 1) := by decide +kernel
theorem dX12_placeBy_39 : decode cX12_placeBy 39 = .ok (.istore 6, 2) := by decide +kernel
theorem dX12_placeBy_41 : decode cX12_placeBy 41 = .ok (.iload 6, 2) := by decide +kernel
theorem dX12_placeBy_43 : decode cX12_placeBy 43 = .ok (.aload_n 0, 1) := by decide +kernel
theorem dX12_placeBy_44 : decode cX12_placeBy 44 = .ok (.getfield 25, 3) := by decide +kernel
theorem dX12_placeBy_47 : decode cX12_placeBy 47 = .ok (.if_icmp .ge 58, 3) := by decide +kernel
theorem dX12_placeBy_50 : decode cX12_placeBy 50 = .ok (.aload_n 0, 1) := by decide +kernel
theorem dX12_placeBy_51 : decode cX12_placeBy 51 = .ok (.getfield 29, 3) := by decide +kernel
theorem dX12_placeBy_54 : decode cX12_placeBy 54 = .ok (.bipush 8, 2) := by decide +kernel
theorem dX12_placeBy_56 : decode cX12_placeBy 56 = .ok (.bipush 7, 2) := by decide +kernel
theorem dX12_placeBy_58 : decode cX12_placeBy 58 = .ok (.iload_n 1, 1) := by decide +kernel
theorem dX12_placeBy_59 : decode cX12_placeBy 59 = .ok (.iadd, 1) := by decide +kernel
theorem dX12_placeBy_60 : decode cX12_placeBy 60 = .ok (.imul, 1) := by decide +kernel
theorem dX12_placeBy_61 : decode cX12_placeBy 61 = .ok (.iload 6, 2) := by decide +kernel
theorem dX12_placeBy_63 : decode cX12_placeBy 63 = .ok (.iadd, 1) := by decide +kernel
theorem dX12_placeBy_64 : decode cX12_placeBy 64 = .ok (.iaload, 1) := by decide +kernel
theorem dX12_placeBy_65 : decode cX12_placeBy 65 = .ok (.iload_n 2, 1) := by decide +kernel
theorem dX12_placeBy_66 : decode cX12_placeBy 66 = .ok (.if_icmp .ne 7, 3) := by decide +kernel
theorem dX12_placeBy_69 : decode cX12_placeBy 69 = .ok (.iload 6, 2) := by decide +kernel
theorem dX12_placeBy_71 : decode cX12_placeBy 71 = .ok (.istore 4, 2) := by decide +kernel
theorem dX12_placeBy_73 : decode cX12_placeBy 73 = .ok (.aload_n 0, 1) := by decide +kernel
theorem dX12_placeBy_74 : decode cX12_placeBy 74 = .ok (.getfield 29, 3) := by decide +kernel
theorem dX12_placeBy_77 : decode cX12_placeBy 77 = .ok (.bipush 8, 2) := by decide +kernel
theorem dX12_placeBy_79 : decode cX12_placeBy 79 = .ok (.bipush 7, 2) := by decide +kernel
theorem dX12_placeBy_81 : decode cX12_placeBy 81 = .ok (.iload_n 1, 1) := by decide +kernel
theorem dX12_placeBy_82 : decode cX12_placeBy 82 = .ok (.iadd, 1) := by decide +kernel
theorem dX12_placeBy_83 : decode cX12_placeBy 83 = .ok (.imul, 1) := by decide +kernel
theorem dX12_placeBy_84 : decode cX12_placeBy 84 = .ok (.iload 6, 2) := by decide +kernel
theorem dX12_placeBy_86 : decode cX12_placeBy 86 = .ok (.iadd, 1) := by decide +kernel
theorem dX12_placeBy_87 : decode cX12_placeBy 87 = .ok (.iaload, 1) := by decide +kernel
theorem dX12_placeBy_88 : decode cX12_placeBy 88 = .ok (.aload_n 0, 1) := by decide +kernel
theorem dX12_placeBy_89 : decode cX12_placeBy 89 = .ok (.getfield 385, 3) := by decide +kernel
theorem dX12_placeBy_92 : decode cX12_placeBy 92 = .ok (.if_icmp .ne 7, 3) := by decide +kernel
theorem dX12_placeBy_95 : decode cX12_placeBy 95 = .ok (.iload 6, 2) := by decide +kernel
theorem dX12_placeBy_97 : decode cX12_placeBy 97 = .ok (.istore 5, 2) := by decide +kernel
theorem dX12_placeBy_99 : decode cX12_placeBy 99 = .ok (.iinc 6 1, 3) := by decide +kernel
theorem dX12_placeBy_102 : decode cX12_placeBy 102 = .ok (.goto (-61), 3) := by decide +kernel
theorem dX12_placeBy_105 : decode cX12_placeBy 105 = .ok (.iload_n 3, 1) := by decide +kernel
theorem dX12_placeBy_106 : decode cX12_placeBy 106 = .ok (.ifCond .eq 17, 3) := by decide +kernel
theorem dX12_placeBy_109 : decode cX12_placeBy 109 = .ok (.iload 4, 2) := by decide +kernel
theorem dX12_placeBy_111 : decode cX12_placeBy 111 = .ok (.iload 5, 2) := by decide +kernel
theorem dX12_placeBy_113 : decode cX12_placeBy 113 = .ok (.if_icmp .ge 10, 3) := by decide +kernel
theorem dX12_placeBy_116 : decode cX12_placeBy 116 = .ok (.iload 4, 2) := by decide +kernel
theorem dX12_placeBy_118 : decode cX12_placeBy 118 = .ok (.iconst 1, 1) := by decide +kernel
theorem dX12_placeBy_119 : decode cX12_placeBy 119 = .ok (.iadd, 1) := by decide +kernel
theorem dX12_placeBy_120 : decode cX12_placeBy 120 = .ok (.goto 5, 3) := by decide +kernel
theorem dX12_placeBy_123 : decode cX12_placeBy 123 = .ok (.iload 4, 2) := by decide +kernel
theorem dX12_placeBy_125 : decode cX12_placeBy 125 = .ok (.ireturn, 1) := by decide +kernel
theorem dX12_findsOvers_0 : decode cX12_findsOvers 0 = .ok (.iconst 0, 1) := by decide +kernel
theorem dX12_findsOvers_1 : decode cX12_findsOvers 1 = .ok (.istore_n 1, 1) := by decide +kernel
theorem dX12_findsOvers_2 : decode cX12_findsOvers 2 = .ok (.iload_n 1, 1) := by decide +kernel
theorem dX12_findsOvers_3 : decode cX12_findsOvers 3 = .ok (.bipush 64, 2) := by decide +kernel
theorem dX12_findsOvers_5 : decode cX12_findsOvers 5 = .ok (.if_icmp .ge 16, 3) := by decide +kernel
theorem dX12_findsOvers_8 : decode cX12_findsOvers 8 = .ok (.aload_n 0, 1) := by decide +kernel
theorem dX12_findsOvers_9 : decode cX12_findsOvers 9 = .ok (.getfield 119, 3) := by decide +kernel
theorem dX12_findsOvers_12 : decode cX12_findsOvers 12 = .ok (.iload_n 1, 1) := by decide +kernel
theorem dX12_findsOvers_13 : decode cX12_findsOvers 13 = .ok (.iconst 0, 1) := by decide +kernel
theorem dX12_findsOvers_14 : decode cX12_findsOvers 14 = .ok (.iastore, 1) := by decide +kernel
theorem dX12_findsOvers_15 : decode cX12_findsOvers 15 = .ok (.iinc 1 1, 3) := by decide +kernel
theorem dX12_findsOvers_18 : decode cX12_findsOvers 18 = .ok (.goto (-16), 3) := by decide +kernel
theorem dX12_findsOvers_21 : decode cX12_findsOvers 21 = .ok (.iconst 0, 1) := by decide +kernel
theorem dX12_findsOvers_22 : decode cX12_findsOvers 22 = .ok (.istore_n 1, 1) := by decide +kernel
theorem dX12_findsOvers_23 : decode cX12_findsOvers 23 = .ok (.iload_n 1, 1) := by decide +kernel
theorem dX12_findsOvers_24 : decode cX12_findsOvers 24 = .ok (.aload_n 0, 1) := by decide +kernel
theorem dX12_findsOvers_25 : decode cX12_findsOvers 25 = .ok (.getfield 174, 3) := by decide +kernel
theorem dX12_findsOvers_28 : decode cX12_findsOvers 28 = .ok (.if_icmp .ge 113, 3) := by decide +kernel
theorem dX12_findsOvers_31 : decode cX12_findsOvers 31 = .ok (.iconst 0, 1) := by decide +kernel
theorem dX12_findsOvers_32 : decode cX12_findsOvers 32 = .ok (.istore_n 2, 1) := by decide +kernel
theorem dX12_findsOvers_33 : decode cX12_findsOvers 33 = .ok (.iload_n 2, 1) := by decide +kernel
theorem dX12_findsOvers_34 : decode cX12_findsOvers 34 = .ok (.aload_n 0, 1) := by decide +kernel
theorem dX12_findsOvers_35 : decode cX12_findsOvers 35 = .ok (.getfield 25, 3) := by decide +kernel
theorem dX12_findsOvers_38 : decode cX12_findsOvers 38 = .ok (.if_icmp .ge 21, 3) := by decide +kernel
theorem dX12_findsOvers_41 : decode cX12_findsOvers 41 = .ok (.aload_n 0, 1) := by decide +kernel
theorem dX12_findsOvers_42 : decode cX12_findsOvers 42 = .ok (.getfield 92, 3) := by decide +kernel
theorem dX12_findsOvers_45 : decode cX12_findsOvers 45 = .ok (.iload_n 2, 1) := by decide +kernel
theorem dX12_findsOvers_46 : decode cX12_findsOvers 46 = .ok (.aload_n 0, 1) := by decide +kernel
theorem dX12_findsOvers_47 : decode cX12_findsOvers 47 = .ok (.iload_n 1, 1) := by decide +kernel
theorem dX12_findsOvers_48 : decode cX12_findsOvers 48 = .ok (.iload_n 2, 1) := by decide +kernel
theorem dX12_findsOvers_49 : decode cX12_findsOvers 49 = .ok (.invokevirtual 388, 3) := by decide +kernel
theorem dX12_findsOvers_52 : decode cX12_findsOvers 52 = .ok (.iastore, 1) := by decide +kernel
theorem dX12_findsOvers_53 : decode cX12_findsOvers 53 = .ok (.iinc 2 1, 3) := by decide +kernel
theorem dX12_findsOvers_56 : decode cX12_findsOvers 56 = .ok (.goto (-23), 3) := by decide +kernel
theorem dX12_findsOvers_59 : decode cX12_findsOvers 59 = .ok (.iconst 0, 1) := by decide +kernel
theorem dX12_findsOvers_60 : decode cX12_findsOvers 60 = .ok (.istore_n 2, 1) := by decide +kernel
theorem dX12_findsOvers_61 : decode cX12_findsOvers 61 = .ok (.iload_n 2, 1) := by decide +kernel
theorem dX12_findsOvers_62 : decode cX12_findsOvers 62 = .ok (.aload_n 0, 1) := by decide +kernel
theorem dX12_findsOvers_63 : decode cX12_findsOvers 63 = .ok (.getfield 25, 3) := by decide +kernel
theorem dX12_findsOvers_66 : decode cX12_findsOvers 66 = .ok (.if_icmp .ge 69, 3) := by decide +kernel
theorem dX12_findsOvers_69 : decode cX12_findsOvers 69 = .ok (.iconst 0, 1) := by decide +kernel
theorem dX12_findsOvers_70 : decode cX12_findsOvers 70 = .ok (.istore_n 3, 1) := by decide +kernel
theorem dX12_findsOvers_71 : decode cX12_findsOvers 71 = .ok (.iload_n 3, 1) := by decide +kernel
theorem dX12_findsOvers_72 : decode cX12_findsOvers 72 = .ok (.aload_n 0, 1) := by decide +kernel
theorem dX12_findsOvers_73 : decode cX12_findsOvers 73 = .ok (.getfield 25, 3) := by decide +kernel
theorem dX12_findsOvers_76 : decode cX12_findsOvers 76 = .ok (.if_icmp .ge 53, 3) := by decide +kernel
theorem dX12_findsOvers_79 : decode cX12_findsOvers 79 = .ok (.aload_n 0, 1) := by decide +kernel
theorem dX12_findsOvers_80 : decode cX12_findsOvers 80 = .ok (.getfield 92, 3) := by decide +kernel
theorem dX12_findsOvers_83 : decode cX12_findsOvers 83 = .ok (.iload_n 2, 1) := by decide +kernel
theorem dX12_findsOvers_84 : decode cX12_findsOvers 84 = .ok (.iaload, 1) := by decide +kernel
theorem dX12_findsOvers_85 : decode cX12_findsOvers 85 = .ok (.aload_n 0, 1) := by decide +kernel
theorem dX12_findsOvers_86 : decode cX12_findsOvers 86 = .ok (.getfield 92, 3) := by decide +kernel
theorem dX12_findsOvers_89 : decode cX12_findsOvers 89 = .ok (.iload_n 3, 1) := by decide +kernel
theorem dX12_findsOvers_90 : decode cX12_findsOvers 90 = .ok (.iaload, 1) := by decide +kernel
theorem dX12_findsOvers_91 : decode cX12_findsOvers 91 = .ok (.if_icmp .ge 32, 3) := by decide +kernel
theorem dX12_findsOvers_94 : decode cX12_findsOvers 94 = .ok (.aload_n 0, 1) := by decide +kernel
theorem dX12_findsOvers_95 : decode cX12_findsOvers 95 = .ok (.getfield 119, 3) := by decide +kernel
theorem dX12_findsOvers_98 : decode cX12_findsOvers 98 = .ok (.bipush 8, 2) := by decide +kernel
theorem dX12_findsOvers_100 : decode cX12_findsOvers 100 = .ok (.iload_n 2, 1) := by decide +kernel
theorem dX12_findsOvers_101 : decode cX12_findsOvers 101 = .ok (.imul, 1) := by decide +kernel
theorem dX12_findsOvers_102 : decode cX12_findsOvers 102 = .ok (.iload_n 3, 1) := by decide +kernel
theorem dX12_findsOvers_103 : decode cX12_findsOvers 103 = .ok (.iadd, 1) := by decide +kernel
theorem dX12_findsOvers_104 : decode cX12_findsOvers 104 = .ok (.aload_n 0, 1) := by decide +kernel
theorem dX12_findsOvers_105 : decode cX12_findsOvers 105 = .ok (.getfield 119, 3) := by decide +kernel
theorem dX12_findsOvers_108 : decode cX12_findsOvers 108 = .ok (.bipush 8, 2) := by decide +kernel
theorem dX12_findsOvers_110 : decode cX12_findsOvers 110 = .ok (.iload_n 2, 1) := by decide +kernel
theorem dX12_findsOvers_111 : decode cX12_findsOvers 111 = .ok (.imul, 1) := by decide +kernel
theorem dX12_findsOvers_112 : decode cX12_findsOvers 112 = .ok (.iload_n 3, 1) := by decide +kernel
theorem dX12_findsOvers_113 : decode cX12_findsOvers 113 = .ok (.iadd, 1) := by decide +kernel
theorem dX12_findsOvers_114 : decode cX12_findsOvers 114 = .ok (.iaload, 1) := by decide +kernel
theorem dX12_findsOvers_115 : decode cX12_findsOvers 115 = .ok (.aload_n 0, 1) := by decide +kernel
theorem dX12_findsOvers_116 : decode cX12_findsOvers 116 = .ok (.getfield 53, 3) := by decide +kernel
theorem dX12_findsOvers_119 : decode cX12_findsOvers 119 = .ok (.iload_n 1, 1) := by decide +kernel
theorem dX12_findsOvers_120 : decode cX12_findsOvers 120 = .ok (.iaload, 1) := by decide +kernel
theorem dX12_findsOvers_121 : decode cX12_findsOvers 121 = .ok (.iadd, 1) := by decide +kernel
theorem dX12_findsOvers_122 : decode cX12_findsOvers 122 = .ok (.iastore, 1) := by decide +kernel
theorem dX12_findsOvers_123 : decode cX12_findsOvers 123 = .ok (.iinc 3 1, 3) := by decide +kernel
theorem dX12_findsOvers_126 : decode cX12_findsOvers 126 = .ok (.goto (-55), 3) := by decide +kernel
theorem dX12_findsOvers_129 : decode cX12_findsOvers 129 = .ok (.iinc 2 1, 3) := by decide +kernel
theorem dX12_findsOvers_132 : decode cX12_findsOvers 132 = .ok (.goto (-71), 3) := by decide +kernel
theorem dX12_findsOvers_135 : decode cX12_findsOvers 135 = .ok (.iinc 1 1, 3) := by decide +kernel
theorem dX12_findsOvers_138 : decode cX12_findsOvers 138 = .ok (.goto (-115), 3) := by decide +kernel
theorem dX12_findsOvers_141 : decode cX12_findsOvers 141 = .ok (.return_, 1) := by decide +kernel
theorem dX12_pointsOf_0 : decode cX12_pointsOf 0 = .ok (.iconst 0, 1) := by decide +kernel
theorem dX12_pointsOf_1 : decode cX12_pointsOf 1 = .ok (.istore_n 2, 1) := by decide +kernel
theorem dX12_pointsOf_2 : decode cX12_pointsOf 2 = .ok (.iconst 0, 1) := by decide +kernel
theorem dX12_pointsOf_3 : decode cX12_pointsOf 3 = .ok (.istore_n 3, 1) := by decide +kernel
theorem dX12_pointsOf_4 : decode cX12_pointsOf 4 = .ok (.iload_n 3, 1) := by decide +kernel
theorem dX12_pointsOf_5 : decode cX12_pointsOf 5 = .ok (.aload_n 0, 1) := by decide +kernel
theorem dX12_pointsOf_6 : decode cX12_pointsOf 6 = .ok (.getfield 174, 3) := by decide +kernel
theorem dX12_pointsOf_9 : decode cX12_pointsOf 9 = .ok (.if_icmp .ge 32, 3) := by decide +kernel
theorem dX12_pointsOf_12 : decode cX12_pointsOf 12 = .ok (.iload_n 2, 1) := by decide +kernel
theorem dX12_pointsOf_13 : decode cX12_pointsOf 13 = .ok (.aload_n 0, 1) := by decide +kernel
theorem dX12_pointsOf_14 : decode cX12_pointsOf 14 = .ok (.getfield 53, 3) := by decide +kernel
theorem dX12_pointsOf_17 : decode cX12_pointsOf 17 = .ok (.iload_n 3, 1) := by decide +kernel
theorem dX12_pointsOf_18 : decode cX12_pointsOf 18 = .ok (.iaload, 1) := by decide +kernel
theorem dX12_pointsOf_19 : decode cX12_pointsOf 19 = .ok (.aload_n 0, 1) := by decide +kernel
theorem dX12_pointsOf_20 : decode cX12_pointsOf 20 = .ok (.getfield 25, 3) := by decide +kernel
theorem dX12_pointsOf_23 : decode cX12_pointsOf 23 = .ok (.iconst 1, 1) := by decide +kernel
theorem dX12_pointsOf_24 : decode cX12_pointsOf 24 = .ok (.isub, 1) := by decide +kernel
theorem dX12_pointsOf_25 : decode cX12_pointsOf 25 = .ok (.aload_n 0, 1) := by decide +kernel
theorem dX12_pointsOf_26 : decode cX12_pointsOf 26 = .ok (.iload_n 3, 1) := by decide +kernel
theorem dX12_pointsOf_27 : decode cX12_pointsOf 27 = .ok (.iload_n 1, 1) := by decide +kernel
theorem dX12_pointsOf_28 : decode cX12_pointsOf 28 = .ok (.invokevirtual 388, 3) := by decide +kernel
theorem dX12_pointsOf_31 : decode cX12_pointsOf 31 = .ok (.isub, 1) := by decide +kernel
theorem dX12_pointsOf_32 : decode cX12_pointsOf 32 = .ok (.imul, 1) := by decide +kernel
theorem dX12_pointsOf_33 : decode cX12_pointsOf 33 = .ok (.iadd, 1) := by decide +kernel
theorem dX12_pointsOf_34 : decode cX12_pointsOf 34 = .ok (.istore_n 2, 1) := by decide +kernel
theorem dX12_pointsOf_35 : decode cX12_pointsOf 35 = .ok (.iinc 3 1, 3) := by decide +kernel
theorem dX12_pointsOf_38 : decode cX12_pointsOf 38 = .ok (.goto (-34), 3) := by decide +kernel
theorem dX12_pointsOf_41 : decode cX12_pointsOf 41 = .ok (.iload_n 2, 1) := by decide +kernel
theorem dX12_pointsOf_42 : decode cX12_pointsOf 42 = .ok (.ireturn, 1) := by decide +kernel
theorem dX12_beatenBy_0 : decode cX12_beatenBy 0 = .ok (.iconst 0, 1) := by decide +kernel
theorem dX12_beatenBy_1 : decode cX12_beatenBy 1 = .ok (.istore_n 2, 1) := by decide +kernel
theorem dX12_beatenBy_2 : decode cX12_beatenBy 2 = .ok (.iconst 0, 1) := by decide +kernel
theorem dX12_beatenBy_3 : decode cX12_beatenBy 3 = .ok (.istore_n 3, 1) := by decide +kernel
theorem dX12_beatenBy_4 : decode cX12_beatenBy 4 = .ok (.iload_n 3, 1) := by decide +kernel
theorem dX12_beatenBy_5 : decode cX12_beatenBy 5 = .ok (.aload_n 0, 1) := by decide +kernel
theorem dX12_beatenBy_6 : decode cX12_beatenBy 6 = .ok (.getfield 25, 3) := by decide +kernel
theorem dX12_beatenBy_9 : decode cX12_beatenBy 9 = .ok (.if_icmp .ge 38, 3) := by decide +kernel
theorem dX12_beatenBy_12 : decode cX12_beatenBy 12 = .ok (.aload_n 0, 1) := by decide +kernel
theorem dX12_beatenBy_13 : decode cX12_beatenBy 13 = .ok (.getfield 119, 3) := by decide +kernel
theorem dX12_beatenBy_16 : decode cX12_beatenBy 16 = .ok (.bipush 8, 2) := by decide +kernel
theorem dX12_beatenBy_18 : decode cX12_beatenBy 18 = .ok (.iload_n 1, 1) := by decide +kernel
theorem dX12_beatenBy_19 : decode cX12_beatenBy 19 = .ok (.imul, 1) := by decide +kernel
theorem dX12_beatenBy_20 : decode cX12_beatenBy 20 = .ok (.iload_n 3, 1) := by decide +kernel
theorem dX12_beatenBy_21 : decode cX12_beatenBy 21 = .ok (.iadd, 1) := by decide +kernel
theorem dX12_beatenBy_22 : decode cX12_beatenBy 22 = .ok (.iaload, 1) := by decide +kernel
theorem dX12_beatenBy_23 : decode cX12_beatenBy 23 = .ok (.aload_n 0, 1) := by decide +kernel
theorem dX12_beatenBy_24 : decode cX12_beatenBy 24 = .ok (.getfield 119, 3) := by decide +kernel
theorem dX12_beatenBy_27 : decode cX12_beatenBy 27 = .ok (.bipush 8, 2) := by decide +kernel
theorem dX12_beatenBy_29 : decode cX12_beatenBy 29 = .ok (.iload_n 3, 1) := by decide +kernel
theorem dX12_beatenBy_30 : decode cX12_beatenBy 30 = .ok (.imul, 1) := by decide +kernel
theorem dX12_beatenBy_31 : decode cX12_beatenBy 31 = .ok (.iload_n 1, 1) := by decide +kernel
theorem dX12_beatenBy_32 : decode cX12_beatenBy 32 = .ok (.iadd, 1) := by decide +kernel
theorem dX12_beatenBy_33 : decode cX12_beatenBy 33 = .ok (.iaload, 1) := by decide +kernel
theorem dX12_beatenBy_34 : decode cX12_beatenBy 34 = .ok (.if_icmp .le 7, 3) := by decide +kernel
theorem dX12_beatenBy_37 : decode cX12_beatenBy 37 = .ok (.iload_n 2, 1) := by decide +kernel
theorem dX12_beatenBy_38 : decode cX12_beatenBy 38 = .ok (.iconst 1, 1) := by decide +kernel
theorem dX12_beatenBy_39 : decode cX12_beatenBy 39 = .ok (.iadd, 1) := by decide +kernel
theorem dX12_beatenBy_40 : decode cX12_beatenBy 40 = .ok (.istore_n 2, 1) := by decide +kernel
theorem dX12_beatenBy_41 : decode cX12_beatenBy 41 = .ok (.iinc 3 1, 3) := by decide +kernel
theorem dX12_beatenBy_44 : decode cX12_beatenBy 44 = .ok (.goto (-40), 3) := by decide +kernel
theorem dX12_beatenBy_47 : decode cX12_beatenBy 47 = .ok (.iload_n 2, 1) := by decide +kernel
theorem dX12_beatenBy_48 : decode cX12_beatenBy 48 = .ok (.ireturn, 1) := by decide +kernel
theorem dX12_agreesWith_0 : decode cX12_agreesWith 0 = .ok (.aload_n 0, 1) := by decide +kernel
theorem dX12_agreesWith_1 : decode cX12_agreesWith 1 = .ok (.getfield 125, 3) := by decide +kernel
theorem dX12_agreesWith_4 : decode cX12_agreesWith 4 = .ok (.iload_n 1, 1) := by decide +kernel
theorem dX12_agreesWith_5 : decode cX12_agreesWith 5 = .ok (.iconst 1, 1) := by decide +kernel
theorem dX12_agreesWith_6 : decode cX12_agreesWith 6 = .ok (.iload_n 2, 1) := by decide +kernel
theorem dX12_agreesWith_7 : decode cX12_agreesWith 7 = .ok (.ishl, 1) := by decide +kernel
theorem dX12_agreesWith_8 : decode cX12_agreesWith 8 = .ok (.iconst (-1), 1) := by decide +kernel
theorem dX12_agreesWith_9 : decode cX12_agreesWith 9 = .ok (.ixor, 1) := by decide +kernel
theorem dX12_agreesWith_10 : decode cX12_agreesWith 10 = .ok (.iand, 1) := by decide +kernel
theorem dX12_agreesWith_11 : decode cX12_agreesWith 11 = .ok (.iaload, 1) := by decide +kernel
theorem dX12_agreesWith_12 : decode cX12_agreesWith 12 = .ok (.istore_n 3, 1) := by decide +kernel
theorem dX12_agreesWith_13 : decode cX12_agreesWith 13 = .ok (.iconst 0, 1) := by decide +kernel
theorem dX12_agreesWith_14 : decode cX12_agreesWith 14 = .ok (.istore 4, 2) := by decide +kernel
theorem dX12_agreesWith_16 : decode cX12_agreesWith 16 = .ok (.iload 4, 2) := by decide +kernel
theorem dX12_agreesWith_18 : decode cX12_agreesWith 18 = .ok (.aload_n 0, 1) := by decide +kernel
theorem dX12_agreesWith_19 : decode cX12_agreesWith 19 = .ok (.getfield 25, 3) := by decide +kernel
theorem dX12_agreesWith_22 : decode cX12_agreesWith 22 = .ok (.if_icmp .ge 40, 3) := by decide +kernel
theorem dX12_agreesWith_25 : decode cX12_agreesWith 25 = .ok (.iload 4, 2) := by decide +kernel
theorem dX12_agreesWith_27 : decode cX12_agreesWith 27 = .ok (.iload_n 2, 1) := by decide +kernel
theorem dX12_agreesWith_28 : decode cX12_agreesWith 28 = .ok (.if_icmp .eq 28, 3) := by decide +kernel
theorem dX12_agreesWith_31 : decode cX12_agreesWith 31 = .ok (.iload_n 1, 1) := by decide +kernel
theorem dX12_agreesWith_32 : decode cX12_agreesWith 32 = .ok (.iload 4, 2) := by decide +kernel
theorem dX12_agreesWith_34 : decode cX12_agreesWith 34 = .ok (.ishr, 1) := by decide +kernel
theorem dX12_agreesWith_35 : decode cX12_agreesWith 35 = .ok (.iconst 1, 1) := by decide +kernel
theorem dX12_agreesWith_36 : decode cX12_agreesWith 36 = .ok (.iand, 1) := by decide +kernel
theorem dX12_agreesWith_37 : decode cX12_agreesWith 37 = .ok (.iconst 1, 1) := by decide +kernel
theorem dX12_agreesWith_38 : decode cX12_agreesWith 38 = .ok (.if_icmp .ne 18, 3) := by decide +kernel
theorem dX12_agreesWith_41 : decode cX12_agreesWith 41 = .ok (.iload_n 3, 1) := by decide +kernel
theorem dX12_agreesWith_42 : decode cX12_agreesWith 42 = .ok (.aload_n 0, 1) := by decide +kernel
theorem dX12_agreesWith_43 : decode cX12_agreesWith 43 = .ok (.getfield 119, 3) := by decide +kernel
theorem dX12_agreesWith_46 : decode cX12_agreesWith 46 = .ok (.bipush 8, 2) := by decide +kernel
theorem dX12_agreesWith_48 : decode cX12_agreesWith 48 = .ok (.iload_n 2, 1) := by decide +kernel
theorem dX12_agreesWith_49 : decode cX12_agreesWith 49 = .ok (.imul, 1) := by decide +kernel
theorem dX12_agreesWith_50 : decode cX12_agreesWith 50 = .ok (.iload 4, 2) := by decide +kernel
theorem dX12_agreesWith_52 : decode cX12_agreesWith 52 = .ok (.iadd, 1) := by decide +kernel
theorem dX12_agreesWith_53 : decode cX12_agreesWith 53 = .ok (.iaload, 1) := by decide +kernel
theorem dX12_agreesWith_54 : decode cX12_agreesWith 54 = .ok (.iadd, 1) := by decide +kernel
theorem dX12_agreesWith_55 : decode cX12_agreesWith 55 = .ok (.istore_n 3, 1) := by decide +kernel
theorem dX12_agreesWith_56 : decode cX12_agreesWith 56 = .ok (.iinc 4 1, 3) := by decide +kernel
theorem dX12_agreesWith_59 : decode cX12_agreesWith 59 = .ok (.goto (-43), 3) := by decide +kernel
theorem dX12_agreesWith_62 : decode cX12_agreesWith 62 = .ok (.iload_n 3, 1) := by decide +kernel
theorem dX12_agreesWith_63 : decode cX12_agreesWith 63 = .ok (.ireturn, 1) := by decide +kernel
theorem dX12_findsNearest_0 : decode cX12_findsNearest 0 = .ok (.aload_n 0, 1) := by decide +kernel
theorem dX12_findsNearest_1 : decode cX12_findsNearest 1 = .ok (.getfield 125, 3) := by decide +kernel
theorem dX12_findsNearest_4 : decode cX12_findsNearest 4 = .ok (.iconst 0, 1) := by decide +kernel
theorem dX12_findsNearest_5 : decode cX12_findsNearest 5 = .ok (.iconst 0, 1) := by decide +kernel
theorem dX12_findsNearest_6 : decode cX12_findsNearest 6 = .ok (.iastore, 1) := by decide +kernel
theorem dX12_findsNearest_7 : decode cX12_findsNearest 7 = .ok (.iconst 1, 1) := by decide +kernel
theorem dX12_findsNearest_8 : decode cX12_findsNearest 8 = .ok (.istore_n 1, 1) := by decide +kernel
theorem dX12_findsNearest_9 : decode cX12_findsNearest 9 = .ok (.iload_n 1, 1) := by decide +kernel
theorem dX12_findsNearest_10 : decode cX12_findsNearest 10 = .ok (.iconst 1, 1) := by decide +kernel
theorem dX12_findsNearest_11 : decode cX12_findsNearest 11 = .ok (.aload_n 0, 1) := by decide +kernel
theorem dX12_findsNearest_12 : decode cX12_findsNearest 12 = .ok (.getfield 25, 3) := by decide +kernel
theorem dX12_findsNearest_15 : decode cX12_findsNearest 15 = .ok (.ishl, 1) := by decide +kernel
theorem dX12_findsNearest_16 : decode cX12_findsNearest 16 = .ok (.if_icmp .ge 66, 3) := by decide +kernel
theorem dX12_findsNearest_19 : decode cX12_findsNearest 19 = .ok (.iconst (-1), 1) := by decide +kernel
theorem dX12_findsNearest_20 : decode cX12_findsNearest 20 = .ok (.istore_n 2, 1) := by decide +kernel
theorem dX12_findsNearest_21 : decode cX12_findsNearest 21 = .ok (.iconst 0, 1) := by decide +kernel
theorem dX12_findsNearest_22 : decode cX12_findsNearest 22 = .ok (.istore_n 3, 1) := by decide +kernel
theorem dX12_findsNearest_23 : decode cX12_findsNearest 23 = .ok (.iload_n 3, 1) := by decide +kernel
theorem dX12_findsNearest_24 : decode cX12_findsNearest 24 = .ok (.aload_n 0, 1) := by decide +kernel
theorem dX12_findsNearest_25 : decode cX12_findsNearest 25 = .ok (.getfield 25, 3) := by decide +kernel
theorem dX12_findsNearest_28 : decode cX12_findsNearest 28 = .ok (.if_icmp .ge 41, 3) := by decide +kernel
theorem dX12_findsNearest_31 : decode cX12_findsNearest 31 = .ok (.iload_n 1, 1) := by decide +kernel
theorem dX12_findsNearest_32 : decode cX12_findsNearest 32 = .ok (.iload_n 3, 1) := by decide +kernel
theorem dX12_findsNearest_33 : decode cX12_findsNearest 33 = .ok (.ishr, 1) := by decide +kernel
theorem dX12_findsNearest_34 : decode cX12_findsNearest 34 = .ok (.iconst 1, 1) := by decide +kernel
theorem dX12_findsNearest_35 : decode cX12_findsNearest 35 = .ok (.iand, 1) := by decide +kernel
theorem dX12_findsNearest_36 : decode cX12_findsNearest 36 = .ok (.ifCond .ne 6, 3) := by decide +kernel
theorem dX12_findsNearest_39 : decode cX12_findsNearest 39 = .ok (.goto 24, 3) := by decide +kernel
theorem dX12_findsNearest_42 : decode cX12_findsNearest 42 = .ok (.aload_n 0, 1) := by decide +kernel
theorem dX12_findsNearest_43 : decode cX12_findsNearest 43 = .ok (.iload_n 1, 1) := by decide +kernel
theorem dX12_findsNearest_44 : decode cX12_findsNearest 44 = .ok (.iload_n 3, 1) := by decide +kernel
theorem dX12_findsNearest_45 : decode cX12_findsNearest 45 = .ok (.invokevirtual 391, 3) := by decide +kernel
theorem dX12_findsNearest_48 : decode cX12_findsNearest 48 = .ok (.istore 4, 2) := by decide +kernel
theorem dX12_findsNearest_50 : decode cX12_findsNearest 50 = .ok (.iload 4, 2) := by decide +kernel
theorem dX12_findsNearest_52 : decode cX12_findsNearest 52 = .ok (.iload_n 2, 1) := by decide +kernel
theorem dX12_findsNearest_53 : decode cX12_findsNearest 53 = .ok (.if_icmp .le 8, 3) := by decide +kernel
theorem dX12_findsNearest_56 : decode cX12_findsNearest 56 = .ok (.iload 4, 2) := by decide +kernel
theorem dX12_findsNearest_58 : decode cX12_findsNearest 58 = .ok (.goto 4, 3) := by decide +kernel
theorem dX12_findsNearest_61 : decode cX12_findsNearest 61 = .ok (.iload_n 2, 1) := by decide +kernel
theorem dX12_findsNearest_62 : decode cX12_findsNearest 62 = .ok (.istore_n 2, 1) := by decide +kernel
theorem dX12_findsNearest_63 : decode cX12_findsNearest 63 = .ok (.iinc 3 1, 3) := by decide +kernel
theorem dX12_findsNearest_66 : decode cX12_findsNearest 66 = .ok (.goto (-43), 3) := by decide +kernel
theorem dX12_findsNearest_69 : decode cX12_findsNearest 69 = .ok (.aload_n 0, 1) := by decide +kernel
theorem dX12_findsNearest_70 : decode cX12_findsNearest 70 = .ok (.getfield 125, 3) := by decide +kernel
theorem dX12_findsNearest_73 : decode cX12_findsNearest 73 = .ok (.iload_n 1, 1) := by decide +kernel
theorem dX12_findsNearest_74 : decode cX12_findsNearest 74 = .ok (.iload_n 2, 1) := by decide +kernel
theorem dX12_findsNearest_75 : decode cX12_findsNearest 75 = .ok (.iastore, 1) := by decide +kernel
theorem dX12_findsNearest_76 : decode cX12_findsNearest 76 = .ok (.iinc 1 1, 3) := by decide +kernel
theorem dX12_findsNearest_79 : decode cX12_findsNearest 79 = .ok (.goto (-70), 3) := by decide +kernel
theorem dX12_findsNearest_82 : decode cX12_findsNearest 82 = .ok (.iconst 1, 1) := by decide +kernel
theorem dX12_findsNearest_83 : decode cX12_findsNearest 83 = .ok (.aload_n 0, 1) := by decide +kernel
theorem dX12_findsNearest_84 : decode cX12_findsNearest 84 = .ok (.getfield 25, 3) := by decide +kernel
theorem dX12_findsNearest_87 : decode cX12_findsNearest 87 = .ok (.ishl, 1) := by decide +kernel
theorem dX12_findsNearest_88 : decode cX12_findsNearest 88 = .ok (.iconst 1, 1) := by decide +kernel
theorem dX12_findsNearest_89 : decode cX12_findsNearest 89 = .ok (.isub, 1) := by decide +kernel
theorem dX12_findsNearest_90 : decode cX12_findsNearest 90 = .ok (.istore_n 1, 1) := by decide +kernel
theorem dX12_findsNearest_91 : decode cX12_findsNearest 91 = .ok (.iconst 0, 1) := by decide +kernel
theorem dX12_findsNearest_92 : decode cX12_findsNearest 92 = .ok (.istore_n 2, 1) := by decide +kernel
theorem dX12_findsNearest_93 : decode cX12_findsNearest 93 = .ok (.iload_n 2, 1) := by decide +kernel
theorem dX12_findsNearest_94 : decode cX12_findsNearest 94 = .ok (.aload_n 0, 1) := by decide +kernel
theorem dX12_findsNearest_95 : decode cX12_findsNearest 95 = .ok (.getfield 25, 3) := by decide +kernel
theorem dX12_findsNearest_98 : decode cX12_findsNearest 98 = .ok (.if_icmp .ge 60, 3) := by decide +kernel
theorem dX12_findsNearest_101 : decode cX12_findsNearest 101 = .ok (.iconst 0, 1) := by decide +kernel
theorem dX12_findsNearest_102 : decode cX12_findsNearest 102 = .ok (.istore_n 3, 1) := by decide +kernel
theorem dX12_findsNearest_103 : decode cX12_findsNearest 103 = .ok (.iload_n 1, 1) := by decide +kernel
theorem dX12_findsNearest_104 : decode cX12_findsNearest 104 = .ok (.iload_n 3, 1) := by decide +kernel
theorem dX12_findsNearest_105 : decode cX12_findsNearest 105 = .ok (.ishr, 1) := by decide +kernel
theorem dX12_findsNearest_106 : decode cX12_findsNearest 106 = .ok (.iconst 1, 1) := by decide +kernel
theorem dX12_findsNearest_107 : decode cX12_findsNearest 107 = .ok (.iand, 1) := by decide +kernel
theorem dX12_findsNearest_108 : decode cX12_findsNearest 108 = .ok (.ifCond .eq 18, 3) := by decide +kernel
theorem dX12_findsNearest_111 : decode cX12_findsNearest 111 = .ok (.aload_n 0, 1) := by decide +kernel
theorem dX12_findsNearest_112 : decode cX12_findsNearest 112 = .ok (.iload_n 1, 1) := by decide +kernel
theorem dX12_findsNearest_113 : decode cX12_findsNearest 113 = .ok (.iload_n 3, 1) := by decide +kernel
theorem dX12_findsNearest_114 : decode cX12_findsNearest 114 = .ok (.invokevirtual 391, 3) := by decide +kernel
theorem dX12_findsNearest_117 : decode cX12_findsNearest 117 = .ok (.aload_n 0, 1) := by decide +kernel
theorem dX12_findsNearest_118 : decode cX12_findsNearest 118 = .ok (.getfield 125, 3) := by decide +kernel
theorem dX12_findsNearest_121 : decode cX12_findsNearest 121 = .ok (.iload_n 1, 1) := by decide +kernel
theorem dX12_findsNearest_122 : decode cX12_findsNearest 122 = .ok (.iaload, 1) := by decide +kernel
theorem dX12_findsNearest_123 : decode cX12_findsNearest 123 = .ok (.if_icmp .eq 10, 3) := by decide +kernel
theorem dX12_findsNearest_126 : decode cX12_findsNearest 126 = .ok (.iload_n 3, 1) := by decide +kernel
theorem dX12_findsNearest_127 : decode cX12_findsNearest 127 = .ok (.iconst 1, 1) := by decide +kernel
theorem dX12_findsNearest_128 : decode cX12_findsNearest 128 = .ok (.iadd, 1) := by decide +kernel
theorem dX12_findsNearest_129 : decode cX12_findsNearest 129 = .ok (.istore_n 3, 1) := by decide +kernel
theorem dX12_findsNearest_130 : decode cX12_findsNearest 130 = .ok (.goto (-27), 3) := by decide +kernel
theorem dX12_findsNearest_133 : decode cX12_findsNearest 133 = .ok (.aload_n 0, 1) := by decide +kernel
theorem dX12_findsNearest_134 : decode cX12_findsNearest 134 = .ok (.getfield 29, 3) := by decide +kernel
theorem dX12_findsNearest_137 : decode cX12_findsNearest 137 = .ok (.sipush 160, 3) := by decide +kernel
theorem dX12_findsNearest_140 : decode cX12_findsNearest 140 = .ok (.iload_n 2, 1) := by decide +kernel
theorem dX12_findsNearest_141 : decode cX12_findsNearest 141 = .ok (.iadd, 1) := by decide +kernel
theorem dX12_findsNearest_142 : decode cX12_findsNearest 142 = .ok (.iload_n 3, 1) := by decide +kernel
theorem dX12_findsNearest_143 : decode cX12_findsNearest 143 = .ok (.iastore, 1) := by decide +kernel
theorem dX12_findsNearest_144 : decode cX12_findsNearest 144 = .ok (.iload_n 1, 1) := by decide +kernel
theorem dX12_findsNearest_145 : decode cX12_findsNearest 145 = .ok (.iconst 1, 1) := by decide +kernel
theorem dX12_findsNearest_146 : decode cX12_findsNearest 146 = .ok (.iload_n 3, 1) := by decide +kernel
theorem dX12_findsNearest_147 : decode cX12_findsNearest 147 = .ok (.ishl, 1) := by decide +kernel
theorem dX12_findsNearest_148 : decode cX12_findsNearest 148 = .ok (.iconst (-1), 1) := by decide +kernel
theorem dX12_findsNearest_149 : decode cX12_findsNearest 149 = .ok (.ixor, 1) := by decide +kernel
theorem dX12_findsNearest_150 : decode cX12_findsNearest 150 = .ok (.iand, 1) := by decide +kernel
theorem dX12_findsNearest_151 : decode cX12_findsNearest 151 = .ok (.istore_n 1, 1) := by decide +kernel
theorem dX12_findsNearest_152 : decode cX12_findsNearest 152 = .ok (.iinc 2 1, 3) := by decide +kernel
theorem dX12_findsNearest_155 : decode cX12_findsNearest 155 = .ok (.goto (-62), 3) := by decide +kernel
theorem dX12_findsNearest_158 : decode cX12_findsNearest 158 = .ok (.return_, 1) := by decide +kernel
theorem dX12_findsVote_0 : decode cX12_findsVote 0 = .ok (.aload_n 0, 1) := by decide +kernel
theorem dX12_findsVote_1 : decode cX12_findsVote 1 = .ok (.invokevirtual 168, 3) := by decide +kernel
theorem dX12_findsVote_4 : decode cX12_findsVote 4 = .ok (.aload_n 0, 1) := by decide +kernel
theorem dX12_findsVote_5 : decode cX12_findsVote 5 = .ok (.getfield 174, 3) := by decide +kernel
theorem dX12_findsVote_8 : decode cX12_findsVote 8 = .ok (.ifCond .ne 11, 3) := by decide +kernel
theorem dX12_findsVote_11 : decode cX12_findsVote 11 = .ok (.aload_n 0, 1) := by decide +kernel
theorem dX12_findsVote_12 : decode cX12_findsVote 12 = .ok (.iconst 0, 1) := by decide +kernel
theorem dX12_findsVote_13 : decode cX12_findsVote 13 = .ok (.bipush 20, 2) := by decide +kernel
theorem dX12_findsVote_15 : decode cX12_findsVote 15 = .ok (.invokevirtual 198, 3) := by decide +kernel
theorem dX12_findsVote_18 : decode cX12_findsVote 18 = .ok (.return_, 1) := by decide +kernel
theorem dX12_findsVote_19 : decode cX12_findsVote 19 = .ok (.aload_n 0, 1) := by decide +kernel
theorem dX12_findsVote_20 : decode cX12_findsVote 20 = .ok (.invokevirtual 394, 3) := by decide +kernel
theorem dX12_findsVote_23 : decode cX12_findsVote 23 = .ok (.iload_n 1, 1) := by decide +kernel
theorem dX12_findsVote_24 : decode cX12_findsVote 24 = .ok (.iconst 2, 1) := by decide +kernel
theorem dX12_findsVote_25 : decode cX12_findsVote 25 = .ok (.if_icmp .ne 8, 3) := by decide +kernel
theorem dX12_findsVote_28 : decode cX12_findsVote 28 = .ok (.aload_n 0, 1) := by decide +kernel
theorem dX12_findsVote_29 : decode cX12_findsVote 29 = .ok (.invokevirtual 397, 3) := by decide +kernel
theorem dX12_findsVote_32 : decode cX12_findsVote 32 = .ok (.return_, 1) := by decide +kernel
theorem dX12_findsVote_33 : decode cX12_findsVote 33 = .ok (.iconst 0, 1) := by decide +kernel
theorem dX12_findsVote_34 : decode cX12_findsVote 34 = .ok (.istore_n 2, 1) := by decide +kernel
theorem dX12_findsVote_35 : decode cX12_findsVote 35 = .ok (.iload_n 2, 1) := by decide +kernel
theorem dX12_findsVote_36 : decode cX12_findsVote 36 = .ok (.aload_n 0, 1) := by decide +kernel
theorem dX12_findsVote_37 : decode cX12_findsVote 37 = .ok (.getfield 25, 3) := by decide +kernel
theorem dX12_findsVote_40 : decode cX12_findsVote 40 = .ok (.if_icmp .ge 104, 3) := by decide +kernel
theorem dX12_findsVote_43 : decode cX12_findsVote 43 = .ok (.aload_n 0, 1) := by decide +kernel
theorem dX12_findsVote_44 : decode cX12_findsVote 44 = .ok (.getfield 122, 3) := by decide +kernel
theorem dX12_findsVote_47 : decode cX12_findsVote 47 = .ok (.iload_n 2, 1) := by decide +kernel
theorem dX12_findsVote_48 : decode cX12_findsVote 48 = .ok (.iload_n 1, 1) := by decide +kernel
theorem dX12_findsVote_49 : decode cX12_findsVote 49 = .ok (.ifCond .ne 11, 3) := by decide +kernel
theorem dX12_findsVote_52 : decode cX12_findsVote 52 = .ok (.aload_n 0, 1) := by decide +kernel
theorem dX12_findsVote_53 : decode cX12_findsVote 53 = .ok (.iload_n 2, 1) := by decide +kernel
theorem dX12_findsVote_54 : decode cX12_findsVote 54 = .ok (.invokevirtual 400, 3) := by decide +kernel
theorem dX12_findsVote_57 : decode cX12_findsVote 57 = .ok (.goto 8, 3) := by decide +kernel
theorem dX12_findsVote_60 : decode cX12_findsVote 60 = .ok (.aload_n 0, 1) := by decide +kernel
theorem dX12_findsVote_61 : decode cX12_findsVote 61 = .ok (.iload_n 2, 1) := by decide +kernel
theorem dX12_findsVote_62 : decode cX12_findsVote 62 = .ok (.invokevirtual 403, 3) := by decide +kernel
theorem dX12_findsVote_65 : decode cX12_findsVote 65 = .ok (.iastore, 1) := by decide +kernel
theorem dX12_findsVote_66 : decode cX12_findsVote 66 = .ok (.iload_n 2, 1) := by decide +kernel
theorem dX12_findsVote_67 : decode cX12_findsVote 67 = .ok (.istore_n 3, 1) := by decide +kernel
theorem dX12_findsVote_68 : decode cX12_findsVote 68 = .ok (.iload_n 3, 1) := by decide +kernel
theorem dX12_findsVote_69 : decode cX12_findsVote 69 = .ok (.ifCond .le 58, 3) := by decide +kernel
theorem dX12_findsVote_72 : decode cX12_findsVote 72 = .ok (.aload_n 0, 1) := by decide +kernel
theorem dX12_findsVote_73 : decode cX12_findsVote 73 = .ok (.getfield 122, 3) := by decide +kernel
theorem dX12_findsVote_76 : decode cX12_findsVote 76 = .ok (.aload_n 0, 1) := by decide +kernel
theorem dX12_findsVote_77 : decode cX12_findsVote 77 = .ok (.getfield 29, 3) := by decide +kernel
theorem dX12_findsVote_80 : decode cX12_findsVote 80 = .ok (.sipush 160, 3) := by decide +kernel
theorem dX12_findsVote_83 : decode cX12_findsVote 83 = .ok (.iload_n 3, 1) := by decide +kernel
theorem dX12_findsVote_84 : decode cX12_findsVote 84 = .ok (.iadd, 1) := by decide +kernel
theorem dX12_findsVote_85 : decode cX12_findsVote 85 = .ok (.iconst 1, 1) := by decide +kernel
theorem dX12_findsVote_86 : decode cX12_findsVote 86 = .ok (.isub, 1) := by decide +kernel
theorem dX12_findsVote_87 : decode cX12_findsVote 87 = .ok (.iaload, 1) := by decide +kernel
theorem dX12_findsVote_88 : decode cX12_findsVote 88 = .ok (.iaload, 1) := by decide +kernel
theorem dX12_findsVote_89 : decode cX12_findsVote 89 = .ok (.aload_n 0, 1) := by decide +kernel
theorem dX12_findsVote_90 : decode cX12_findsVote 90 = .ok (.getfield 122, 3) := by decide +kernel
theorem dX12_findsVote_93 : decode cX12_findsVote 93 = .ok (.iload_n 2, 1) := by decide +kernel
theorem dX12_findsVote_94 : decode cX12_findsVote 94 = .ok (.iaload, 1) := by decide +kernel
theorem dX12_findsVote_95 : decode cX12_findsVote 95 = .ok (.if_icmp .ge 32, 3) := by decide +kernel
theorem dX12_findsVote_98 : decode cX12_findsVote 98 = .ok (.aload_n 0, 1) := by decide +kernel
theorem dX12_findsVote_99 : decode cX12_findsVote 99 = .ok (.getfield 29, 3) := by decide +kernel
theorem dX12_findsVote_102 : decode cX12_findsVote 102 = .ok (.sipush 160, 3) := by decide +kernel
theorem dX12_findsVote_105 : decode cX12_findsVote 105 = .ok (.iload_n 3, 1) := by decide +kernel
theorem dX12_findsVote_106 : decode cX12_findsVote 106 = .ok (.iadd, 1) := by decide +kernel
theorem dX12_findsVote_107 : decode cX12_findsVote 107 = .ok (.aload_n 0, 1) := by decide +kernel
theorem dX12_findsVote_108 : decode cX12_findsVote 108 = .ok (.getfield 29, 3) := by decide +kernel
theorem dX12_findsVote_111 : decode cX12_findsVote 111 = .ok (.sipush 160, 3) := by decide +kernel
theorem dX12_findsVote_114 : decode cX12_findsVote 114 = .ok (.iload_n 3, 1) := by decide +kernel
theorem dX12_findsVote_115 : decode cX12_findsVote 115 = .ok (.iadd, 1) := by decide +kernel
theorem dX12_findsVote_116 : decode cX12_findsVote 116 = .ok (.iconst 1, 1) := by decide +kernel
theorem dX12_findsVote_117 : decode cX12_findsVote 117 = .ok (.isub, 1) := by decide +kernel
theorem dX12_findsVote_118 : decode cX12_findsVote 118 = .ok (.iaload, 1) := by decide +kernel
theorem dX12_findsVote_119 : decode cX12_findsVote 119 = .ok (.iastore, 1) := by decide +kernel
theorem dX12_findsVote_120 : decode cX12_findsVote 120 = .ok (.iload_n 3, 1) := by decide +kernel
theorem dX12_findsVote_121 : decode cX12_findsVote 121 = .ok (.iconst 1, 1) := by decide +kernel
theorem dX12_findsVote_122 : decode cX12_findsVote 122 = .ok (.isub, 1) := by decide +kernel
theorem dX12_findsVote_123 : decode cX12_findsVote 123 = .ok (.istore_n 3, 1) := by decide +kernel
theorem dX12_findsVote_124 : decode cX12_findsVote 124 = .ok (.goto (-56), 3) := by decide +kernel
theorem dX12_findsVote_127 : decode cX12_findsVote 127 = .ok (.aload_n 0, 1) := by decide +kernel
theorem dX12_findsVote_128 : decode cX12_findsVote 128 = .ok (.getfield 29, 3) := by decide +kernel
theorem dX12_findsVote_131 : decode cX12_findsVote 131 = .ok (.sipush 160, 3) := by decide +kernel
theorem dX12_findsVote_134 : decode cX12_findsVote 134 = .ok (.iload_n 3, 1) := by decide +kernel
theorem dX12_findsVote_135 : decode cX12_findsVote 135 = .ok (.iadd, 1) := by decide +kernel
theorem dX12_findsVote_136 : decode cX12_findsVote 136 = .ok (.iload_n 2, 1) := by decide +kernel
theorem dX12_findsVote_137 : decode cX12_findsVote 137 = .ok (.iastore, 1) := by decide +kernel
theorem dX12_findsVote_138 : decode cX12_findsVote 138 = .ok (.iinc 2 1, 3) := by decide +kernel
theorem dX12_findsVote_141 : decode cX12_findsVote 141 = .ok (.goto (-106), 3) := by decide +kernel
theorem dX12_findsVote_144 : decode cX12_findsVote 144 = .ok (.return_, 1) := by decide +kernel
theorem dX12_isLetterOf_0 : decode cX12_isLetterOf 0 = .ok (.iload_n 1, 1) := by decide +kernel
theorem dX12_isLetterOf_1 : decode cX12_isLetterOf 1 = .ok (.ifCond .lt 15, 3) := by decide +kernel
theorem dX12_isLetterOf_4 : decode cX12_isLetterOf 4 = .ok (.iload_n 1, 1) := by decide +kernel
theorem dX12_isLetterOf_5 : decode cX12_isLetterOf 5 = .ok (.aload_n 0, 1) := by decide +kernel
theorem dX12_isLetterOf_6 : decode cX12_isLetterOf 6 = .ok (.getfield 25, 3) := by decide +kernel
theorem dX12_isLetterOf_9 : decode cX12_isLetterOf 9 = .ok (.if_icmp .ge 7, 3) := by decide +kernel
theorem dX12_isLetterOf_12 : decode cX12_isLetterOf 12 = .ok (.iconst 1, 1) := by decide +kernel
theorem dX12_isLetterOf_13 : decode cX12_isLetterOf 13 = .ok (.goto 4, 3) := by decide +kernel
theorem dX12_isLetterOf_16 : decode cX12_isLetterOf 16 = .ok (.iconst 0, 1) := by decide +kernel
theorem dX12_isLetterOf_17 : decode cX12_isLetterOf 17 = .ok (.ireturn, 1) := by decide +kernel
theorem dX12_over_0 : decode cX12_over 0 = .ok (.aload_n 0, 1) := by decide +kernel
theorem dX12_over_1 : decode cX12_over 1 = .ok (.iconst 0, 1) := by decide +kernel
theorem dX12_over_2 : decode cX12_over 2 = .ok (.putfield 146, 3) := by decide +kernel
theorem dX12_over_5 : decode cX12_over 5 = .ok (.aload_n 0, 1) := by decide +kernel
theorem dX12_over_6 : decode cX12_over 6 = .ok (.iload_n 1, 1) := by decide +kernel
theorem dX12_over_7 : decode cX12_over 7 = .ok (.invokevirtual 406, 3) := by decide +kernel
theorem dX12_over_10 : decode cX12_over 10 = .ok (.ifCond .eq 16, 3) := by decide +kernel
theorem dX12_over_13 : decode cX12_over 13 = .ok (.aload_n 0, 1) := by decide +kernel
theorem dX12_over_14 : decode cX12_over 14 = .ok (.iload_n 2, 1) := by decide +kernel
theorem dX12_over_15 : decode cX12_over 15 = .ok (.invokevirtual 406, 3) := by decide +kernel
theorem dX12_over_18 : decode cX12_over 18 = .ok (.ifCond .eq 8, 3) := by decide +kernel
theorem dX12_over_21 : decode cX12_over 21 = .ok (.iload_n 1, 1) := by decide +kernel
theorem dX12_over_22 : decode cX12_over 22 = .ok (.iload_n 2, 1) := by decide +kernel
theorem dX12_over_23 : decode cX12_over 23 = .ok (.if_icmp .ne 5, 3) := by decide +kernel
theorem dX12_over_26 : decode cX12_over 26 = .ok (.iconst (-1), 1) := by decide +kernel
theorem dX12_over_27 : decode cX12_over 27 = .ok (.ireturn, 1) := by decide +kernel
theorem dX12_over_28 : decode cX12_over 28 = .ok (.aload_n 0, 1) := by decide +kernel
theorem dX12_over_29 : decode cX12_over 29 = .ok (.iconst 0, 1) := by decide +kernel
theorem dX12_over_30 : decode cX12_over 30 = .ok (.putfield 382, 3) := by decide +kernel
theorem dX12_over_33 : decode cX12_over 33 = .ok (.aload_n 0, 1) := by decide +kernel
theorem dX12_over_34 : decode cX12_over 34 = .ok (.invokevirtual 394, 3) := by decide +kernel
theorem dX12_over_37 : decode cX12_over 37 = .ok (.aload_n 0, 1) := by decide +kernel
theorem dX12_over_38 : decode cX12_over 38 = .ok (.getfield 119, 3) := by decide +kernel
theorem dX12_over_41 : decode cX12_over 41 = .ok (.bipush 8, 2) := by decide +kernel
theorem dX12_over_43 : decode cX12_over 43 = .ok (.iload_n 1, 1) := by decide +kernel
theorem dX12_over_44 : decode cX12_over 44 = .ok (.imul, 1) := by decide +kernel
theorem dX12_over_45 : decode cX12_over 45 = .ok (.iload_n 2, 1) := by decide +kernel
theorem dX12_over_46 : decode cX12_over 46 = .ok (.iadd, 1) := by decide +kernel
theorem dX12_over_47 : decode cX12_over 47 = .ok (.iaload, 1) := by decide +kernel
theorem dX12_over_48 : decode cX12_over 48 = .ok (.ireturn, 1) := by decide +kernel
theorem dX12_vote_0 : decode cX12_vote 0 = .ok (.aload_n 0, 1) := by decide +kernel
theorem dX12_vote_1 : decode cX12_vote 1 = .ok (.iconst 0, 1) := by decide +kernel
theorem dX12_vote_2 : decode cX12_vote 2 = .ok (.putfield 146, 3) := by decide +kernel
theorem dX12_vote_5 : decode cX12_vote 5 = .ok (.aload_n 0, 1) := by decide +kernel
theorem dX12_vote_6 : decode cX12_vote 6 = .ok (.iload_n 1, 1) := by decide +kernel
theorem dX12_vote_7 : decode cX12_vote 7 = .ok (.iconst 0, 1) := by decide +kernel
theorem dX12_vote_8 : decode cX12_vote 8 = .ok (.iconst 2, 1) := by decide +kernel
theorem dX12_vote_9 : decode cX12_vote 9 = .ok (.invokevirtual 160, 3) := by decide +kernel
theorem dX12_vote_12 : decode cX12_vote 12 = .ok (.ifCond .eq 11, 3) := by decide +kernel
theorem dX12_vote_15 : decode cX12_vote 15 = .ok (.aload_n 0, 1) := by decide +kernel
theorem dX12_vote_16 : decode cX12_vote 16 = .ok (.iload_n 2, 1) := by decide +kernel
theorem dX12_vote_17 : decode cX12_vote 17 = .ok (.invokevirtual 406, 3) := by decide +kernel
theorem dX12_vote_20 : decode cX12_vote 20 = .ok (.ifCond .ne 5, 3) := by decide +kernel
theorem dX12_vote_23 : decode cX12_vote 23 = .ok (.iconst (-1), 1) := by decide +kernel
theorem dX12_vote_24 : decode cX12_vote 24 = .ok (.ireturn, 1) := by decide +kernel
theorem dX12_vote_25 : decode cX12_vote 25 = .ok (.aload_n 0, 1) := by decide +kernel
theorem dX12_vote_26 : decode cX12_vote 26 = .ok (.iconst 0, 1) := by decide +kernel
theorem dX12_vote_27 : decode cX12_vote 27 = .ok (.putfield 382, 3) := by decide +kernel
theorem dX12_vote_30 : decode cX12_vote 30 = .ok (.aload_n 0, 1) := by decide +kernel
theorem dX12_vote_31 : decode cX12_vote 31 = .ok (.iload_n 1, 1) := by decide +kernel
theorem dX12_vote_32 : decode cX12_vote 32 = .ok (.invokevirtual 409, 3) := by decide +kernel
theorem dX12_vote_35 : decode cX12_vote 35 = .ok (.aload_n 0, 1) := by decide +kernel
theorem dX12_vote_36 : decode cX12_vote 36 = .ok (.getfield 29, 3) := by decide +kernel
theorem dX12_vote_39 : decode cX12_vote 39 = .ok (.sipush 160, 3) := by decide +kernel
theorem dX12_vote_42 : decode cX12_vote 42 = .ok (.iload_n 2, 1) := by decide +kernel
theorem dX12_vote_43 : decode cX12_vote 43 = .ok (.iadd, 1) := by decide +kernel
theorem dX12_vote_44 : decode cX12_vote 44 = .ok (.iaload, 1) := by decide +kernel
theorem dX12_vote_45 : decode cX12_vote 45 = .ok (.ireturn, 1) := by decide +kernel
theorem dX12_circle_0 : decode cX12_circle 0 = .ok (.aload_n 0, 1) := by decide +kernel
theorem dX12_circle_1 : decode cX12_circle 1 = .ok (.iconst 0, 1) := by decide +kernel
theorem dX12_circle_2 : decode cX12_circle 2 = .ok (.putfield 146, 3) := by decide +kernel
theorem dX12_circle_5 : decode cX12_circle 5 = .ok (.aload_n 0, 1) := by decide +kernel
theorem dX12_circle_6 : decode cX12_circle 6 = .ok (.iconst 0, 1) := by decide +kernel
theorem dX12_circle_7 : decode cX12_circle 7 = .ok (.putfield 382, 3) := by decide +kernel
theorem dX12_circle_10 : decode cX12_circle 10 = .ok (.aload_n 0, 1) := by decide +kernel
theorem dX12_circle_11 : decode cX12_circle 11 = .ok (.invokevirtual 394, 3) := by decide +kernel
theorem dX12_circle_14 : decode cX12_circle 14 = .ok (.iconst 0, 1) := by decide +kernel
theorem dX12_circle_15 : decode cX12_circle 15 = .ok (.istore_n 1, 1) := by decide +kernel
theorem dX12_circle_16 : decode cX12_circle 16 = .ok (.iload_n 1, 1) := by decide +kernel
theorem dX12_circle_17 : decode cX12_circle 17 = .ok (.aload_n 0, 1) := by decide +kernel
theorem dX12_circle_18 : decode cX12_circle 18 = .ok (.getfield 25, 3) := by decide +kernel
theorem dX12_circle_21 : decode cX12_circle 21 = .ok (.if_icmp .ge 73, 3) := by decide +kernel
theorem dX12_circle_24 : decode cX12_circle 24 = .ok (.aload_n 0, 1) := by decide +kernel
theorem dX12_circle_25 : decode cX12_circle 25 = .ok (.getfield 128, 3) := by decide +kernel
theorem dX12_circle_28 : decode cX12_circle 28 = .ok (.iload_n 1, 1) := by decide +kernel
theorem dX12_circle_29 : decode cX12_circle 29 = .ok (.iconst 0, 1) := by decide +kernel
theorem dX12_circle_30 : decode cX12_circle 30 = .ok (.iastore, 1) := by decide +kernel
theorem dX12_circle_31 : decode cX12_circle 31 = .ok (.iconst 0, 1) := by decide +kernel
theorem dX12_circle_32 : decode cX12_circle 32 = .ok (.istore_n 2, 1) := by decide +kernel
theorem dX12_circle_33 : decode cX12_circle 33 = .ok (.iload_n 2, 1) := by decide +kernel
theorem dX12_circle_34 : decode cX12_circle 34 = .ok (.aload_n 0, 1) := by decide +kernel
theorem dX12_circle_35 : decode cX12_circle 35 = .ok (.getfield 25, 3) := by decide +kernel
theorem dX12_circle_38 : decode cX12_circle 38 = .ok (.if_icmp .ge 50, 3) := by decide +kernel
theorem dX12_circle_41 : decode cX12_circle 41 = .ok (.aload_n 0, 1) := by decide +kernel
theorem dX12_circle_42 : decode cX12_circle 42 = .ok (.getfield 119, 3) := by decide +kernel
theorem dX12_circle_45 : decode cX12_circle 45 = .ok (.bipush 8, 2) := by decide +kernel
theorem dX12_circle_47 : decode cX12_circle 47 = .ok (.iload_n 1, 1) := by decide +kernel
theorem dX12_circle_48 : decode cX12_circle 48 = .ok (.imul, 1) := by decide +kernel
theorem dX12_circle_49 : decode cX12_circle 49 = .ok (.iload_n 2, 1) := by decide +kernel
theorem dX12_circle_50 : decode cX12_circle 50 = .ok (.iadd, 1) := by decide +kernel
theorem dX12_circle_51 : decode cX12_circle 51 = .ok (.iaload, 1) := by decide +kernel
theorem dX12_circle_52 : decode cX12_circle 52 = .ok (.aload_n 0, 1) := by decide +kernel
theorem dX12_circle_53 : decode cX12_circle 53 = .ok (.getfield 119, 3) := by decide +kernel
theorem dX12_circle_56 : decode cX12_circle 56 = .ok (.bipush 8, 2) := by decide +kernel
theorem dX12_circle_58 : decode cX12_circle 58 = .ok (.iload_n 2, 1) := by decide +kernel
theorem dX12_circle_59 : decode cX12_circle 59 = .ok (.imul, 1) := by decide +kernel
theorem dX12_circle_60 : decode cX12_circle 60 = .ok (.iload_n 1, 1) := by decide +kernel
theorem dX12_circle_61 : decode cX12_circle 61 = .ok (.iadd, 1) := by decide +kernel
theorem dX12_circle_62 : decode cX12_circle 62 = .ok (.iaload, 1) := by decide +kernel
theorem dX12_circle_63 : decode cX12_circle 63 = .ok (.if_icmp .le 19, 3) := by decide +kernel
theorem dX12_circle_66 : decode cX12_circle 66 = .ok (.aload_n 0, 1) := by decide +kernel
theorem dX12_circle_67 : decode cX12_circle 67 = .ok (.getfield 128, 3) := by decide +kernel
theorem dX12_circle_70 : decode cX12_circle 70 = .ok (.iload_n 1, 1) := by decide +kernel
theorem dX12_circle_71 : decode cX12_circle 71 = .ok (.aload_n 0, 1) := by decide +kernel
theorem dX12_circle_72 : decode cX12_circle 72 = .ok (.getfield 128, 3) := by decide +kernel
theorem dX12_circle_75 : decode cX12_circle 75 = .ok (.iload_n 1, 1) := by decide +kernel
theorem dX12_circle_76 : decode cX12_circle 76 = .ok (.iaload, 1) := by decide +kernel
theorem dX12_circle_77 : decode cX12_circle 77 = .ok (.iconst 1, 1) := by decide +kernel
theorem dX12_circle_78 : decode cX12_circle 78 = .ok (.iload_n 2, 1) := by decide +kernel
theorem dX12_circle_79 : decode cX12_circle 79 = .ok (.ishl, 1) := by decide +kernel
theorem dX12_circle_80 : decode cX12_circle 80 = .ok (.ior, 1) := by decide +kernel
theorem dX12_circle_81 : decode cX12_circle 81 = .ok (.iastore, 1) := by decide +kernel
theorem dX12_circle_82 : decode cX12_circle 82 = .ok (.iinc 2 1, 3) := by decide +kernel
theorem dX12_circle_85 : decode cX12_circle 85 = .ok (.goto (-52), 3) := by decide +kernel
theorem dX12_circle_88 : decode cX12_circle 88 = .ok (.iinc 1 1, 3) := by decide +kernel
theorem dX12_circle_91 : decode cX12_circle 91 = .ok (.goto (-75), 3) := by decide +kernel
theorem dX12_circle_94 : decode cX12_circle 94 = .ok (.iconst 0, 1) := by decide +kernel
theorem dX12_circle_95 : decode cX12_circle 95 = .ok (.istore_n 1, 1) := by decide +kernel
theorem dX12_circle_96 : decode cX12_circle 96 = .ok (.iload_n 1, 1) := by decide +kernel
theorem dX12_circle_97 : decode cX12_circle 97 = .ok (.aload_n 0, 1) := by decide +kernel
theorem dX12_circle_98 : decode cX12_circle 98 = .ok (.getfield 25, 3) := by decide +kernel
theorem dX12_circle_101 : decode cX12_circle 101 = .ok (.if_icmp .ge 74, 3) := by decide +kernel
theorem dX12_circle_104 : decode cX12_circle 104 = .ok (.iconst 0, 1) := by decide +kernel
theorem dX12_circle_105 : decode cX12_circle 105 = .ok (.istore_n 2, 1) := by decide +kernel
theorem dX12_circle_106 : decode cX12_circle 106 = .ok (.iload_n 2, 1) := by decide +kernel
theorem dX12_circle_107 : decode cX12_circle 107 = .ok (.aload_n 0, 1) := by decide +kernel
theorem dX12_circle_108 : decode cX12_circle 108 = .ok (.getfield 25, 3) := by decide +kernel
theorem dX12_circle_111 : decode cX12_circle 111 = .ok (.if_icmp .ge 58, 3) := by decide +kernel
theorem dX12_circle_114 : decode cX12_circle 114 = .ok (.iconst 0, 1) := by decide +kernel
theorem dX12_circle_115 : decode cX12_circle 115 = .ok (.istore_n 3, 1) := by decide +kernel
theorem dX12_circle_116 : decode cX12_circle 116 = .ok (.iload_n 3, 1) := by decide +kernel
theorem dX12_circle_117 : decode cX12_circle 117 = .ok (.aload_n 0, 1) := by decide +kernel
theorem dX12_circle_118 : decode cX12_circle 118 = .ok (.getfield 25, 3) := by decide +kernel
theorem dX12_circle_121 : decode cX12_circle 121 = .ok (.if_icmp .ge 42, 3) := by decide +kernel
theorem dX12_circle_124 : decode cX12_circle 124 = .ok (.aload_n 0, 1) := by decide +kernel
theorem dX12_circle_125 : decode cX12_circle 125 = .ok (.getfield 128, 3) := by decide +kernel
theorem dX12_circle_128 : decode cX12_circle 128 = .ok (.iload_n 2, 1) := by decide +kernel
theorem dX12_circle_129 : decode cX12_circle 129 = .ok (.iaload, 1) := by decide +kernel
theorem dX12_circle_130 : decode cX12_circle 130 = .ok (.iload_n 3, 1) := by decide +kernel
theorem dX12_circle_131 : decode cX12_circle 131 = .ok (.ishr, 1) := by decide +kernel
theorem dX12_circle_132 : decode cX12_circle 132 = .ok (.iconst 1, 1) := by decide +kernel
theorem dX12_circle_133 : decode cX12_circle 133 = .ok (.iand, 1) := by decide +kernel
theorem dX12_circle_134 : decode cX12_circle 134 = .ok (.iconst 1, 1) := by decide +kernel
theorem dX12_circle_135 : decode cX12_circle 135 = .ok (.if_icmp .ne 22, 3) := by decide +kernel
theorem dX12_circle_138 : decode cX12_circle 138 = .ok (.aload_n 0, 1) := by decide +kernel
theorem dX12_circle_139 : decode cX12_circle 139 = .ok (.getfield 128, 3) := by decide +kernel
theorem dX12_circle_142 : decode cX12_circle 142 = .ok (.iload_n 2, 1) := by decide +kernel
theorem dX12_circle_143 : decode cX12_circle 143 = .ok (.aload_n 0, 1) := by decide +kernel
theorem dX12_circle_144 : decode cX12_circle 144 = .ok (.getfield 128, 3) := by decide +kernel
theorem dX12_circle_147 : decode cX12_circle 147 = .ok (.iload_n 2, 1) := by decide +kernel
theorem dX12_circle_148 : decode cX12_circle 148 = .ok (.iaload, 1) := by decide +kernel
theorem dX12_circle_149 : decode cX12_circle 149 = .ok (.aload_n 0, 1) := by decide +kernel
theorem dX12_circle_150 : decode cX12_circle 150 = .ok (.getfield 128, 3) := by decide +kernel
theorem dX12_circle_153 : decode cX12_circle 153 = .ok (.iload_n 3, 1) := by decide +kernel
theorem dX12_circle_154 : decode cX12_circle 154 = .ok (.iaload, 1) := by decide +kernel
theorem dX12_circle_155 : decode cX12_circle 155 = .ok (.ior, 1) := by decide +kernel
theorem dX12_circle_156 : decode cX12_circle 156 = .ok (.iastore, 1) := by decide +kernel
theorem dX12_circle_157 : decode cX12_circle 157 = .ok (.iinc 3 1, 3) := by decide +kernel
theorem dX12_circle_160 : decode cX12_circle 160 = .ok (.goto (-44), 3) := by decide +kernel
theorem dX12_circle_163 : decode cX12_circle 163 = .ok (.iinc 2 1, 3) := by decide +kernel
theorem dX12_circle_166 : decode cX12_circle 166 = .ok (.goto (-60), 3) := by decide +kernel
theorem dX12_circle_169 : decode cX12_circle 169 = .ok (.iinc 1 1, 3) := by decide +kernel
theorem dX12_circle_172 : decode cX12_circle 172 = .ok (.goto (-76), 3) := by decide +kernel
theorem dX12_circle_175 : decode cX12_circle 175 = .ok (.iconst 0, 1) := by decide +kernel
theorem dX12_circle_176 : decode cX12_circle 176 = .ok (.istore_n 1, 1) := by decide +kernel
theorem dX12_circle_177 : decode cX12_circle 177 = .ok (.iconst 0, 1) := by decide +kernel
theorem dX12_circle_178 : decode cX12_circle 178 = .ok (.istore_n 2, 1) := by decide +kernel
theorem dX12_circle_179 : decode cX12_circle 179 = .ok (.iload_n 2, 1) := by decide +kernel
theorem dX12_circle_180 : decode cX12_circle 180 = .ok (.aload_n 0, 1) := by decide +kernel
theorem dX12_circle_181 : decode cX12_circle 181 = .ok (.getfield 25, 3) := by decide +kernel
theorem dX12_circle_184 : decode cX12_circle 184 = .ok (.if_icmp .ge 27, 3) := by decide +kernel
theorem dX12_circle_187 : decode cX12_circle 187 = .ok (.aload_n 0, 1) := by decide +kernel
theorem dX12_circle_188 : decode cX12_circle 188 = .ok (.getfield 128, 3) := by decide +kernel
theorem dX12_circle_191 : decode cX12_circle 191 = .ok (.iload_n 2, 1) := by decide +kernel
theorem dX12_circle_192 : decode cX12_circle 192 = .ok (.iaload, 1) := by decide +kernel
theorem dX12_circle_193 : decode cX12_circle 193 = .ok (.iload_n 2, 1) := by decide +kernel
theorem dX12_circle_194 : decode cX12_circle 194 = .ok (.ishr, 1) := by decide +kernel
theorem dX12_circle_195 : decode cX12_circle 195 = .ok (.iconst 1, 1) := by decide +kernel
theorem dX12_circle_196 : decode cX12_circle 196 = .ok (.iand, 1) := by decide +kernel
theorem dX12_circle_197 : decode cX12_circle 197 = .ok (.iconst 1, 1) := by decide +kernel
theorem dX12_circle_198 : decode cX12_circle 198 = .ok (.if_icmp .ne 7, 3) := by decide +kernel
theorem dX12_circle_201 : decode cX12_circle 201 = .ok (.iload_n 1, 1) := by decide +kernel
theorem dX12_circle_202 : decode cX12_circle 202 = .ok (.iconst 1, 1) := by decide +kernel
theorem dX12_circle_203 : decode cX12_circle 203 = .ok (.iadd, 1) := by decide +kernel
theorem dX12_circle_204 : decode cX12_circle 204 = .ok (.istore_n 1, 1) := by decide +kernel
theorem dX12_circle_205 : decode cX12_circle 205 = .ok (.iinc 2 1, 3) := by decide +kernel
theorem dX12_circle_208 : decode cX12_circle 208 = .ok (.goto (-29), 3) := by decide +kernel
theorem dX12_circle_211 : decode cX12_circle 211 = .ok (.iload_n 1, 1) := by decide +kernel
theorem dX12_circle_212 : decode cX12_circle 212 = .ok (.ireturn, 1) := by decide +kernel
theorem dX12_bringsAhead_0 : decode cX12_bringsAhead 0 = .ok (.aload_n 0, 1) := by decide +kernel
theorem dX12_bringsAhead_1 : decode cX12_bringsAhead 1 = .ok (.iload_n 3, 1) := by decide +kernel
theorem dX12_bringsAhead_2 : decode cX12_bringsAhead 2 = .ok (.invokevirtual 409, 3) := by decide +kernel
theorem dX12_bringsAhead_5 : decode cX12_bringsAhead 5 = .ok (.iconst 0, 1) := by decide +kernel
theorem dX12_bringsAhead_6 : decode cX12_bringsAhead 6 = .ok (.istore 4, 2) := by decide +kernel
theorem dX12_bringsAhead_8 : decode cX12_bringsAhead 8 = .ok (.iload 4, 2) := by decide +kernel
theorem dX12_bringsAhead_10 : decode cX12_bringsAhead 10 = .ok (.aload_n 0, 1) := by decide +kernel
theorem dX12_bringsAhead_11 : decode cX12_bringsAhead 11 = .ok (.getfield 25, 3) := by decide +kernel
theorem dX12_bringsAhead_14 : decode cX12_bringsAhead 14 = .ok (.if_icmp .ge 46, 3) := by decide +kernel
theorem dX12_bringsAhead_17 : decode cX12_bringsAhead 17 = .ok (.aload_n 0, 1) := by decide +kernel
theorem dX12_bringsAhead_18 : decode cX12_bringsAhead 18 = .ok (.getfield 29, 3) := by decide +kernel
theorem dX12_bringsAhead_21 : decode cX12_bringsAhead 21 = .ok (.sipush 160, 3) := by decide +kernel
theorem dX12_bringsAhead_24 : decode cX12_bringsAhead 24 = .ok (.iload 4, 2) := by decide +kernel
theorem dX12_bringsAhead_26 : decode cX12_bringsAhead 26 = .ok (.iadd, 1) := by decide +kernel
theorem dX12_bringsAhead_27 : decode cX12_bringsAhead 27 = .ok (.iaload, 1) := by decide +kernel
theorem dX12_bringsAhead_28 : decode cX12_bringsAhead 28 = .ok (.istore 5, 2) := by decide +kernel
theorem dX12_bringsAhead_30 : decode cX12_bringsAhead 30 = .ok (.iload 5, 2) := by decide +kernel
theorem dX12_bringsAhead_32 : decode cX12_bringsAhead 32 = .ok (.iload_n 1, 1) := by decide +kernel
theorem dX12_bringsAhead_33 : decode cX12_bringsAhead 33 = .ok (.if_icmp .eq 9, 3) := by decide +kernel
theorem dX12_bringsAhead_36 : decode cX12_bringsAhead 36 = .ok (.iload 5, 2) := by decide +kernel
theorem dX12_bringsAhead_38 : decode cX12_bringsAhead 38 = .ok (.iload_n 2, 1) := by decide +kernel
theorem dX12_bringsAhead_39 : decode cX12_bringsAhead 39 = .ok (.if_icmp .ne 15, 3) := by decide +kernel
theorem dX12_bringsAhead_42 : decode cX12_bringsAhead 42 = .ok (.iload 5, 2) := by decide +kernel
theorem dX12_bringsAhead_44 : decode cX12_bringsAhead 44 = .ok (.iload_n 1, 1) := by decide +kernel
theorem dX12_bringsAhead_45 : decode cX12_bringsAhead 45 = .ok (.if_icmp .ne 7, 3) := by decide +kernel
theorem dX12_bringsAhead_48 : decode cX12_bringsAhead 48 = .ok (.iconst 1, 1) := by decide +kernel
theorem dX12_bringsAhead_49 : decode cX12_bringsAhead 49 = .ok (.goto 4, 3) := by decide +kernel
theorem dX12_bringsAhead_52 : decode cX12_bringsAhead 52 = .ok (.iconst 0, 1) := by decide +kernel
theorem dX12_bringsAhead_53 : decode cX12_bringsAhead 53 = .ok (.ireturn, 1) := by decide +kernel
theorem dX12_bringsAhead_54 : decode cX12_bringsAhead 54 = .ok (.iinc 4 1, 3) := by decide +kernel
theorem dX12_bringsAhead_57 : decode cX12_bringsAhead 57 = .ok (.goto (-49), 3) := by decide +kernel
theorem dX12_bringsAhead_60 : decode cX12_bringsAhead 60 = .ok (.iconst 0, 1) := by decide +kernel
theorem dX12_bringsAhead_61 : decode cX12_bringsAhead 61 = .ok (.ireturn, 1) := by decide +kernel
theorem dX12_buy_0 : decode cX12_buy 0 = .ok (.aload_n 0, 1) := by decide +kernel
theorem dX12_buy_1 : decode cX12_buy 1 = .ok (.iconst 0, 1) := by decide +kernel
theorem dX12_buy_2 : decode cX12_buy 2 = .ok (.putfield 146, 3) := by decide +kernel
theorem dX12_buy_5 : decode cX12_buy 5 = .ok (.aload_n 0, 1) := by decide +kernel
theorem dX12_buy_6 : decode cX12_buy 6 = .ok (.iload_n 1, 1) := by decide +kernel
theorem dX12_buy_7 : decode cX12_buy 7 = .ok (.invokevirtual 406, 3) := by decide +kernel
theorem dX12_buy_10 : decode cX12_buy 10 = .ok (.ifCond .eq 37, 3) := by decide +kernel
theorem dX12_buy_13 : decode cX12_buy 13 = .ok (.aload_n 0, 1) := by decide +kernel
theorem dX12_buy_14 : decode cX12_buy 14 = .ok (.iload_n 2, 1) := by decide +kernel
theorem dX12_buy_15 : decode cX12_buy 15 = .ok (.invokevirtual 406, 3) := by decide +kernel
theorem dX12_buy_18 : decode cX12_buy 18 = .ok (.ifCond .eq 29, 3) := by decide +kernel
theorem dX12_buy_21 : decode cX12_buy 21 = .ok (.iload_n 1, 1) := by decide +kernel
theorem dX12_buy_22 : decode cX12_buy 22 = .ok (.iload_n 2, 1) := by decide +kernel
theorem dX12_buy_23 : decode cX12_buy 23 = .ok (.if_icmp .eq 24, 3) := by decide +kernel
theorem dX12_buy_26 : decode cX12_buy 26 = .ok (.aload_n 0, 1) := by decide +kernel
theorem dX12_buy_27 : decode cX12_buy 27 = .ok (.iload_n 3, 1) := by decide +kernel
theorem dX12_buy_28 : decode cX12_buy 28 = .ok (.iconst 0, 1) := by decide +kernel
theorem dX12_buy_29 : decode cX12_buy 29 = .ok (.iconst 2, 1) := by decide +kernel
theorem dX12_buy_30 : decode cX12_buy 30 = .ok (.invokevirtual 160, 3) := by decide +kernel
theorem dX12_buy_33 : decode cX12_buy 33 = .ok (.ifCond .eq 14, 3) := by decide +kernel
theorem dX12_buy_36 : decode cX12_buy 36 = .ok (.aload_n 0, 1) := by decide +kernel
theorem dX12_buy_37 : decode cX12_buy 37 = .ok (.iload 4, 2) := by decide +kernel
theorem dX12_buy_39 : decode cX12_buy 39 = .ok (.iconst 0, 1) := by decide +kernel
theorem dX12_buy_40 : decode cX12_buy 40 = .ok (.iconst 1, 1) := by decide +kernel
theorem dX12_buy_41 : decode cX12_buy 41 = .ok (.invokevirtual 160, 3) := by decide +kernel
theorem dX12_buy_44 : decode cX12_buy 44 = .ok (.ifCond .ne 5, 3) := by decide +kernel
theorem dX12_buy_47 : decode cX12_buy 47 = .ok (.iconst (-1), 1) := by decide +kernel
theorem dX12_buy_48 : decode cX12_buy 48 = .ok (.ireturn, 1) := by decide +kernel
theorem dX12_buy_49 : decode cX12_buy 49 = .ok (.iconst (-1), 1) := by decide +kernel
theorem dX12_buy_50 : decode cX12_buy 50 = .ok (.istore 5, 2) := by decide +kernel
theorem dX12_buy_52 : decode cX12_buy 52 = .ok (.iconst 0, 1) := by decide +kernel
theorem dX12_buy_53 : decode cX12_buy 53 = .ok (.istore 6, 2) := by decide +kernel
theorem dX12_buy_55 : decode cX12_buy 55 = .ok (.aload_n 0, 1) := by decide +kernel
theorem dX12_buy_56 : decode cX12_buy 56 = .ok (.iload_n 1, 1) := by decide +kernel
theorem dX12_buy_57 : decode cX12_buy 57 = .ok (.putfield 385, 3) := by decide +kernel
theorem dX12_buy_60 : decode cX12_buy 60 = .ok (.iconst 0, 1) := by decide +kernel
theorem dX12_buy_61 : decode cX12_buy 61 = .ok (.istore 7, 2) := by decide +kernel
theorem dX12_buy_63 : decode cX12_buy 63 = .ok (.iload 7, 2) := by decide +kernel
theorem dX12_buy_65 : decode cX12_buy 65 = .ok (.iconst 1, 1) := by decide +kernel
theorem dX12_buy_66 : decode cX12_buy 66 = .ok (.aload_n 0, 1) := by decide +kernel
theorem dX12_buy_67 : decode cX12_buy 67 = .ok (.getfield 174, 3) := by decide +kernel
theorem dX12_buy_70 : decode cX12_buy 70 = .ok (.ishl, 1) := by decide +kernel
theorem dX12_buy_71 : decode cX12_buy 71 = .ok (.if_icmp .ge 118, 3) := by decide +kernel
theorem dX12_buy_74 : decode cX12_buy 74 = .ok (.iconst 0, 1) := by decide +kernel
theorem dX12_buy_75 : decode cX12_buy 75 = .ok (.istore 8, 2) := by decide +kernel
theorem dX12_buy_77 : decode cX12_buy 77 = .ok (.iconst 0, 1) := by decide +kernel
theorem dX12_buy_78 : decode cX12_buy 78 = .ok (.istore 9, 2) := by decide +kernel
theorem dX12_buy_80 : decode cX12_buy 80 = .ok (.iload 9, 2) := by decide +kernel
theorem dX12_buy_82 : decode cX12_buy 82 = .ok (.aload_n 0, 1) := by decide +kernel
theorem dX12_buy_83 : decode cX12_buy 83 = .ok (.getfield 174, 3) := by decide +kernel
theorem dX12_buy_86 : decode cX12_buy 86 = .ok (.if_icmp .ge 32, 3) := by decide +kernel
theorem dX12_buy_89 : decode cX12_buy 89 = .ok (.iload 7, 2) := by decide +kernel
theorem dX12_buy_91 : decode cX12_buy 91 = .ok (.iload 9, 2) := by decide +kernel
theorem dX12_buy_93 : decode cX12_buy 93 = .ok (.ishr, 1) := by decide +kernel
theorem dX12_buy_94 : decode cX12_buy 94 = .ok (.iconst 1, 1) := by decide +kernel
theorem dX12_buy_95 : decode cX12_buy 95 = .ok (.iand, 1) := by decide +kernel
theorem dX12_buy_96 : decode cX12_buy 96 = .ok (.iconst 1, 1) := by decide +kernel
theorem dX12_buy_97 : decode cX12_buy 97 = .ok (.if_icmp .ne 15, 3) := by decide +kernel
theorem dX12_buy_100 : decode cX12_buy 100 = .ok (.iload 8, 2) := by decide +kernel
theorem dX12_buy_102 : decode cX12_buy 102 = .ok (.aload_n 0, 1) := by decide +kernel
theorem dX12_buy_103 : decode cX12_buy 103 = .ok (.getfield 56, 3) := by decide +kernel
theorem dX12_buy_106 : decode cX12_buy 106 = .ok (.iload 9, 2) := by decide +kernel
theorem dX12_buy_108 : decode cX12_buy 108 = .ok (.iaload, 1) := by decide +kernel
theorem dX12_buy_109 : decode cX12_buy 109 = .ok (.iadd, 1) := by decide +kernel
theorem dX12_buy_110 : decode cX12_buy 110 = .ok (.istore 8, 2) := by decide +kernel
theorem dX12_buy_112 : decode cX12_buy 112 = .ok (.iinc 9 1, 3) := by decide +kernel
theorem dX12_buy_115 : decode cX12_buy 115 = .ok (.goto (-35), 3) := by decide +kernel
theorem dX12_buy_118 : decode cX12_buy 118 = .ok (.iload 5, 2) := by decide +kernel
theorem dX12_buy_120 : decode cX12_buy 120 = .ok (.iconst (-1), 1) := by decide +kernel
theorem dX12_buy_121 : decode cX12_buy 121 = .ok (.if_icmp .eq 35, 3) := by decide +kernel
theorem dX12_buy_124 : decode cX12_buy 124 = .ok (.iload 8, 2) := by decide +kernel
theorem dX12_buy_126 : decode cX12_buy 126 = .ok (.iload 6, 2) := by decide +kernel
theorem dX12_buy_128 : decode cX12_buy 128 = .ok (.if_icmp .gt 55, 3) := by decide +kernel
theorem dX12_buy_131 : decode cX12_buy 131 = .ok (.iload 8, 2) := by decide +kernel
theorem dX12_buy_133 : decode cX12_buy 133 = .ok (.iload 6, 2) := by decide +kernel
theorem dX12_buy_135 : decode cX12_buy 135 = .ok (.if_icmp .ne 21, 3) := by decide +kernel
theorem dX12_buy_138 : decode cX12_buy 138 = .ok (.aload_n 0, 1) := by decide +kernel
theorem dX12_buy_139 : decode cX12_buy 139 = .ok (.iload 7, 2) := by decide +kernel
theorem dX12_buy_141 : decode cX12_buy 141 = .ok (.invokevirtual 412, 3) := by decide +kernel
theorem dX12_buy_144 : decode cX12_buy 144 = .ok (.aload_n 0, 1) := by decide +kernel
theorem dX12_buy_145 : decode cX12_buy 145 = .ok (.iload 5, 2) := by decide +kernel
theorem dX12_buy_147 : decode cX12_buy 147 = .ok (.invokevirtual 412, 3) := by decide +kernel
theorem dX12_buy_150 : decode cX12_buy 150 = .ok (.if_icmp .lt 6, 3) := by decide +kernel
theorem dX12_buy_153 : decode cX12_buy 153 = .ok (.goto 30, 3) := by decide +kernel
theorem dX12_buy_156 : decode cX12_buy 156 = .ok (.aload_n 0, 1) := by decide +kernel
theorem dX12_buy_157 : decode cX12_buy 157 = .ok (.iload 7, 2) := by decide +kernel
theorem dX12_buy_159 : decode cX12_buy 159 = .ok (.putfield 382, 3) := by decide +kernel
theorem dX12_buy_162 : decode cX12_buy 162 = .ok (.aload_n 0, 1) := by decide +kernel
theorem dX12_buy_163 : decode cX12_buy 163 = .ok (.iload_n 1, 1) := by decide +kernel
theorem dX12_buy_164 : decode cX12_buy 164 = .ok (.iload_n 2, 1) := by decide +kernel
theorem dX12_buy_165 : decode cX12_buy 165 = .ok (.iload_n 3, 1) := by decide +kernel
theorem dX12_buy_166 : decode cX12_buy 166 = .ok (.invokevirtual 415, 3) := by decide +kernel
theorem dX12_buy_169 : decode cX12_buy 169 = .ok (.ifCond .ne 6, 3) := by decide +kernel
theorem dX12_buy_172 : decode cX12_buy 172 = .ok (.goto 11, 3) := by decide +kernel
theorem dX12_buy_175 : decode cX12_buy 175 = .ok (.iload 7, 2) := by decide +kernel
theorem dX12_buy_177 : decode cX12_buy 177 = .ok (.istore 5, 2) := by decide +kernel
theorem dX12_buy_179 : decode cX12_buy 179 = .ok (.iload 8, 2) := by decide +kernel
theorem dX12_buy_181 : decode cX12_buy 181 = .ok (.istore 6, 2) := by decide +kernel
theorem dX12_buy_183 : decode cX12_buy 183 = .ok (.iinc 7 1, 3) := by decide +kernel
theorem dX12_buy_186 : decode cX12_buy 186 = .ok (.goto (-123), 3) := by decide +kernel
theorem dX12_buy_189 : decode cX12_buy 189 = .ok (.aload_n 0, 1) := by decide +kernel
theorem dX12_buy_190 : decode cX12_buy 190 = .ok (.iconst 0, 1) := by decide +kernel
theorem dX12_buy_191 : decode cX12_buy 191 = .ok (.putfield 382, 3) := by decide +kernel
theorem dX12_buy_194 : decode cX12_buy 194 = .ok (.iload 5, 2) := by decide +kernel
theorem dX12_buy_196 : decode cX12_buy 196 = .ok (.iconst (-1), 1) := by decide +kernel
theorem dX12_buy_197 : decode cX12_buy 197 = .ok (.if_icmp .eq 8, 3) := by decide +kernel
theorem dX12_buy_200 : decode cX12_buy 200 = .ok (.iload 4, 2) := by decide +kernel
theorem dX12_buy_202 : decode cX12_buy 202 = .ok (.ifCond .ne 8, 3) := by decide +kernel
theorem dX12_buy_205 : decode cX12_buy 205 = .ok (.iload 5, 2) := by decide +kernel
theorem dX12_buy_207 : decode cX12_buy 207 = .ok (.goto 5, 3) := by decide +kernel
theorem dX12_buy_210 : decode cX12_buy 210 = .ok (.iload 6, 2) := by decide +kernel
theorem dX12_buy_212 : decode cX12_buy 212 = .ok (.ireturn, 1) := by decide +kernel
theorem dX12_harmOf_0 : decode cX12_harmOf 0 = .ok (.aload_n 0, 1) := by decide +kernel
theorem dX12_harmOf_1 : decode cX12_harmOf 1 = .ok (.iconst 0, 1) := by decide +kernel
theorem dX12_harmOf_2 : decode cX12_harmOf 2 = .ok (.invokevirtual 324, 3) := by decide +kernel
theorem dX12_harmOf_5 : decode cX12_harmOf 5 = .ok (.iconst 0, 1) := by decide +kernel
theorem dX12_harmOf_6 : decode cX12_harmOf 6 = .ok (.istore_n 2, 1) := by decide +kernel
theorem dX12_harmOf_7 : decode cX12_harmOf 7 = .ok (.iload_n 2, 1) := by decide +kernel
theorem dX12_harmOf_8 : decode cX12_harmOf 8 = .ok (.aload_n 0, 1) := by decide +kernel
theorem dX12_harmOf_9 : decode cX12_harmOf 9 = .ok (.getfield 154, 3) := by decide +kernel
theorem dX12_harmOf_12 : decode cX12_harmOf 12 = .ok (.if_icmp .ge 21, 3) := by decide +kernel
theorem dX12_harmOf_15 : decode cX12_harmOf 15 = .ok (.aload_n 0, 1) := by decide +kernel
theorem dX12_harmOf_16 : decode cX12_harmOf 16 = .ok (.getfield 131, 3) := by decide +kernel
theorem dX12_harmOf_19 : decode cX12_harmOf 19 = .ok (.iload_n 2, 1) := by decide +kernel
theorem dX12_harmOf_20 : decode cX12_harmOf 20 = .ok (.aload_n 0, 1) := by decide +kernel
theorem dX12_harmOf_21 : decode cX12_harmOf 21 = .ok (.getfield 98, 3) := by decide +kernel
theorem dX12_harmOf_24 : decode cX12_harmOf 24 = .ok (.iload_n 2, 1) := by decide +kernel
theorem dX12_harmOf_25 : decode cX12_harmOf 25 = .ok (.iaload, 1) := by decide +kernel
theorem dX12_harmOf_26 : decode cX12_harmOf 26 = .ok (.iastore, 1) := by decide +kernel
theorem dX12_harmOf_27 : decode cX12_harmOf 27 = .ok (.iinc 2 1, 3) := by decide +kernel
theorem dX12_harmOf_30 : decode cX12_harmOf 30 = .ok (.goto (-23), 3) := by decide +kernel
theorem dX12_harmOf_33 : decode cX12_harmOf 33 = .ok (.aload_n 0, 1) := by decide +kernel
theorem dX12_harmOf_34 : decode cX12_harmOf 34 = .ok (.iload_n 1, 1) := by decide +kernel
theorem dX12_harmOf_35 : decode cX12_harmOf 35 = .ok (.invokevirtual 324, 3) := by decide +kernel
theorem dX12_harmOf_38 : decode cX12_harmOf 38 = .ok (.iconst 0, 1) := by decide +kernel
theorem dX12_harmOf_39 : decode cX12_harmOf 39 = .ok (.istore_n 2, 1) := by decide +kernel
theorem dX12_harmOf_40 : decode cX12_harmOf 40 = .ok (.iconst 0, 1) := by decide +kernel
theorem dX12_harmOf_41 : decode cX12_harmOf 41 = .ok (.istore_n 3, 1) := by decide +kernel
theorem dX12_harmOf_42 : decode cX12_harmOf 42 = .ok (.iload_n 3, 1) := by decide +kernel
theorem dX12_harmOf_43 : decode cX12_harmOf 43 = .ok (.aload_n 0, 1) := by decide +kernel
theorem dX12_harmOf_44 : decode cX12_harmOf 44 = .ok (.getfield 154, 3) := by decide +kernel
theorem dX12_harmOf_47 : decode cX12_harmOf 47 = .ok (.if_icmp .ge 110, 3) := by decide +kernel
theorem dX12_harmOf_50 : decode cX12_harmOf 50 = .ok (.aload_n 0, 1) := by decide +kernel
theorem dX12_harmOf_51 : decode cX12_harmOf 51 = .ok (.getfield 131, 3) := by decide +kernel
theorem dX12_harmOf_54 : decode cX12_harmOf 54 = .ok (.iload_n 3, 1) := by decide +kernel
theorem dX12_harmOf_55 : decode cX12_harmOf 55 = .ok (.iaload, 1) := by decide +kernel
theorem dX12_harmOf_56 : decode cX12_harmOf 56 = .ok (.aload_n 0, 1) := by decide +kernel
theorem dX12_harmOf_57 : decode cX12_harmOf 57 = .ok (.getfield 98, 3) := by decide +kernel
theorem dX12_harmOf_60 : decode cX12_harmOf 60 = .ok (.iload_n 3, 1) := by decide +kernel
theorem dX12_harmOf_61 : decode cX12_harmOf 61 = .ok (.iaload, 1) := by decide +kernel
theorem dX12_harmOf_62 : decode cX12_harmOf 62 = .ok (.isub, 1) := by decide +kernel
theorem dX12_harmOf_63 : decode cX12_harmOf 63 = .ok (.istore 4, 2) := by decide +kernel
theorem dX12_harmOf_65 : decode cX12_harmOf 65 = .ok (.iload 4, 2) := by decide +kernel
theorem dX12_harmOf_67 : decode cX12_harmOf 67 = .ok (.ifCond .gt 6, 3) := by decide +kernel
theorem dX12_harmOf_70 : decode cX12_harmOf 70 = .ok (.goto 81, 3) := by decide +kernel
theorem dX12_harmOf_73 : decode cX12_harmOf 73 = .ok (.iconst 0, 1) := by decide +kernel
theorem dX12_harmOf_74 : decode cX12_harmOf 74 = .ok (.istore 5, 2) := by decide +kernel
theorem dX12_harmOf_76 : decode cX12_harmOf 76 = .ok (.iconst 0, 1) := by decide +kernel
theorem dX12_harmOf_77 : decode cX12_harmOf 77 = .ok (.istore 6, 2) := by decide +kernel
theorem dX12_harmOf_79 : decode cX12_harmOf 79 = .ok (.iload 6, 2) := by decide +kernel
theorem dX12_harmOf_81 : decode cX12_harmOf 81 = .ok (.aload_n 0, 1) := by decide +kernel
theorem dX12_harmOf_82 : decode cX12_harmOf 82 = .ok (.getfield 154, 3) := by decide +kernel
theorem dX12_harmOf_85 : decode cX12_harmOf 85 = .ok (.if_icmp .ge 53, 3) := by decide +kernel
theorem dX12_harmOf_88 : decode cX12_harmOf 88 = .ok (.aload_n 0, 1) := by decide +kernel
theorem dX12_harmOf_89 : decode cX12_harmOf 89 = .ok (.getfield 131, 3) := by decide +kernel
theorem dX12_harmOf_92 : decode cX12_harmOf 92 = .ok (.iload 6, 2) := by decide +kernel
theorem dX12_harmOf_94 : decode cX12_harmOf 94 = .ok (.iaload, 1) := by decide +kernel
theorem dX12_harmOf_95 : decode cX12_harmOf 95 = .ok (.aload_n 0, 1) := by decide +kernel
theorem dX12_harmOf_96 : decode cX12_harmOf 96 = .ok (.getfield 131, 3) := by decide +kernel
theorem dX12_harmOf_99 : decode cX12_harmOf 99 = .ok (.iload_n 3, 1) := by decide +kernel
theorem dX12_harmOf_100 : decode cX12_harmOf 100 = .ok (.iaload, 1) := by decide +kernel
theorem dX12_harmOf_101 : decode cX12_harmOf 101 = .ok (.if_icmp .lt 25, 3) := by decide +kernel
theorem dX12_harmOf_104 : decode cX12_harmOf 104 = .ok (.aload_n 0, 1) := by decide +kernel
theorem dX12_harmOf_105 : decode cX12_harmOf 105 = .ok (.getfield 131, 3) := by decide +kernel
theorem dX12_harmOf_108 : decode cX12_harmOf 108 = .ok (.iload 6, 2) := by decide +kernel
theorem dX12_harmOf_110 : decode cX12_harmOf 110 = .ok (.iaload, 1) := by decide +kernel
theorem dX12_harmOf_111 : decode cX12_harmOf 111 = .ok (.aload_n 0, 1) := by decide +kernel
theorem dX12_harmOf_112 : decode cX12_harmOf 112 = .ok (.getfield 131, 3) := by decide +kernel
theorem dX12_harmOf_115 : decode cX12_harmOf 115 = .ok (.iload_n 3, 1) := by decide +kernel
theorem dX12_harmOf_116 : decode cX12_harmOf 116 = .ok (.iaload, 1) := by decide +kernel
theorem dX12_harmOf_117 : decode cX12_harmOf 117 = .ok (.if_icmp .ne 15, 3) := by decide +kernel
theorem dX12_harmOf_120 : decode cX12_harmOf 120 = .ok (.iload 6, 2) := by decide +kernel
theorem dX12_harmOf_122 : decode cX12_harmOf 122 = .ok (.iload_n 3, 1) := by decide +kernel
theorem dX12_harmOf_123 : decode cX12_harmOf 123 = .ok (.if_icmp .ge 9, 3) := by decide +kernel
theorem dX12_harmOf_126 : decode cX12_harmOf 126 = .ok (.iload 5, 2) := by decide +kernel
theorem dX12_harmOf_128 : decode cX12_harmOf 128 = .ok (.iconst 1, 1) := by decide +kernel
theorem dX12_harmOf_129 : decode cX12_harmOf 129 = .ok (.iadd, 1) := by decide +kernel
theorem dX12_harmOf_130 : decode cX12_harmOf 130 = .ok (.istore 5, 2) := by decide +kernel
theorem dX12_harmOf_132 : decode cX12_harmOf 132 = .ok (.iinc 6 1, 3) := by decide +kernel
theorem dX12_harmOf_135 : decode cX12_harmOf 135 = .ok (.goto (-56), 3) := by decide +kernel
theorem dX12_harmOf_138 : decode cX12_harmOf 138 = .ok (.iload_n 2, 1) := by decide +kernel
theorem dX12_harmOf_139 : decode cX12_harmOf 139 = .ok (.iload 4, 2) := by decide +kernel
theorem dX12_harmOf_141 : decode cX12_harmOf 141 = .ok (.aload_n 0, 1) := by decide +kernel
theorem dX12_harmOf_142 : decode cX12_harmOf 142 = .ok (.getfield 154, 3) := by decide +kernel
theorem dX12_harmOf_145 : decode cX12_harmOf 145 = .ok (.iload 5, 2) := by decide +kernel
theorem dX12_harmOf_147 : decode cX12_harmOf 147 = .ok (.isub, 1) := by decide +kernel
theorem dX12_harmOf_148 : decode cX12_harmOf 148 = .ok (.imul, 1) := by decide +kernel
theorem dX12_harmOf_149 : decode cX12_harmOf 149 = .ok (.iadd, 1) := by decide +kernel
theorem dX12_harmOf_150 : decode cX12_harmOf 150 = .ok (.istore_n 2, 1) := by decide +kernel
theorem dX12_harmOf_151 : decode cX12_harmOf 151 = .ok (.iinc 3 1, 3) := by decide +kernel
theorem dX12_harmOf_154 : decode cX12_harmOf 154 = .ok (.goto (-112), 3) := by decide +kernel
theorem dX12_harmOf_157 : decode cX12_harmOf 157 = .ok (.iload_n 2, 1) := by decide +kernel
theorem dX12_harmOf_158 : decode cX12_harmOf 158 = .ok (.ireturn, 1) := by decide +kernel
theorem dX12_harm_0 : decode cX12_harm 0 = .ok (.aload_n 0, 1) := by decide +kernel
theorem dX12_harm_1 : decode cX12_harm 1 = .ok (.iconst 0, 1) := by decide +kernel
theorem dX12_harm_2 : decode cX12_harm 2 = .ok (.putfield 146, 3) := by decide +kernel
theorem dX12_harm_5 : decode cX12_harm 5 = .ok (.aload_n 0, 1) := by decide +kernel
theorem dX12_harm_6 : decode cX12_harm 6 = .ok (.invokevirtual 195, 3) := by decide +kernel
theorem dX12_harm_9 : decode cX12_harm 9 = .ok (.ifCond .eq 12, 3) := by decide +kernel
theorem dX12_harm_12 : decode cX12_harm 12 = .ok (.aload_n 0, 1) := by decide +kernel
theorem dX12_harm_13 : decode cX12_harm 13 = .ok (.bipush 19, 2) := by decide +kernel
theorem dX12_harm_15 : decode cX12_harm 15 = .ok (.invokevirtual 418, 3) := by decide +kernel
theorem dX12_harm_18 : decode cX12_harm 18 = .ok (.goto 4, 3) := by decide +kernel
theorem dX12_harm_21 : decode cX12_harm 21 = .ok (.iconst (-1), 1) := by decide +kernel
theorem dX12_harm_22 : decode cX12_harm 22 = .ok (.ireturn, 1) := by decide +kernel
theorem dX12_nextOrder_0 : decode cX12_nextOrder 0 = .ok (.sipush 152, 3) := by decide +kernel
theorem dX12_nextOrder_3 : decode cX12_nextOrder 3 = .ok (.istore_n 1, 1) := by decide +kernel
theorem dX12_nextOrder_4 : decode cX12_nextOrder 4 = .ok (.aload_n 0, 1) := by decide +kernel
theorem dX12_nextOrder_5 : decode cX12_nextOrder 5 = .ok (.getfield 25, 3) := by decide +kernel
theorem dX12_nextOrder_8 : decode cX12_nextOrder 8 = .ok (.iconst 2, 1) := by decide +kernel
theorem dX12_nextOrder_9 : decode cX12_nextOrder 9 = .ok (.isub, 1) := by decide +kernel
theorem dX12_nextOrder_10 : decode cX12_nextOrder 10 = .ok (.istore_n 2, 1) := by decide +kernel
theorem dX12_nextOrder_11 : decode cX12_nextOrder 11 = .ok (.iload_n 2, 1) := by decide +kernel
theorem dX12_nextOrder_12 : decode cX12_nextOrder 12 = .ok (.ifCond .lt 31, 3) := by decide +kernel
theorem dX12_nextOrder_15 : decode cX12_nextOrder 15 = .ok (.aload_n 0, 1) := by decide +kernel
theorem dX12_nextOrder_16 : decode cX12_nextOrder 16 = .ok (.getfield 29, 3) := by decide +kernel
theorem dX12_nextOrder_19 : decode cX12_nextOrder 19 = .ok (.iload_n 1, 1) := by decide +kernel
theorem dX12_nextOrder_20 : decode cX12_nextOrder 20 = .ok (.iload_n 2, 1) := by decide +kernel
theorem dX12_nextOrder_21 : decode cX12_nextOrder 21 = .ok (.iadd, 1) := by decide +kernel
theorem dX12_nextOrder_22 : decode cX12_nextOrder 22 = .ok (.iaload, 1) := by decide +kernel
theorem dX12_nextOrder_23 : decode cX12_nextOrder 23 = .ok (.aload_n 0, 1) := by decide +kernel
theorem dX12_nextOrder_24 : decode cX12_nextOrder 24 = .ok (.getfield 29, 3) := by decide +kernel
theorem dX12_nextOrder_27 : decode cX12_nextOrder 27 = .ok (.iload_n 1, 1) := by decide +kernel
theorem dX12_nextOrder_28 : decode cX12_nextOrder 28 = .ok (.iload_n 2, 1) := by decide +kernel
theorem dX12_nextOrder_29 : decode cX12_nextOrder 29 = .ok (.iadd, 1) := by decide +kernel
theorem dX12_nextOrder_30 : decode cX12_nextOrder 30 = .ok (.iconst 1, 1) := by decide +kernel
theorem dX12_nextOrder_31 : decode cX12_nextOrder 31 = .ok (.iadd, 1) := by decide +kernel
theorem dX12_nextOrder_32 : decode cX12_nextOrder 32 = .ok (.iaload, 1) := by decide +kernel
theorem dX12_nextOrder_33 : decode cX12_nextOrder 33 = .ok (.if_icmp .le 10, 3) := by decide +kernel
theorem dX12_nextOrder_36 : decode cX12_nextOrder 36 = .ok (.iload_n 2, 1) := by decide +kernel
theorem dX12_nextOrder_37 : decode cX12_nextOrder 37 = .ok (.iconst 1, 1) := by decide +kernel
theorem dX12_nextOrder_38 : decode cX12_nextOrder 38 = .ok (.isub, 1) := by decide +kernel
theorem dX12_nextOrder_39 : decode cX12_nextOrder 39 = .ok (.istore_n 2, 1) := by decide +kernel
theorem dX12_nextOrder_40 : decode cX12_nextOrder 40 = .ok (.goto (-29), 3) := by decide +kernel
theorem dX12_nextOrder_43 : decode cX12_nextOrder 43 = .ok (.iload_n 2, 1) := by decide +kernel
theorem dX12_nextOrder_44 : decode cX12_nextOrder 44 = .ok (.ifCond .ge 5, 3) := by decide +kernel
theorem dX12_nextOrder_47 : decode cX12_nextOrder 47 = .ok (.iconst 0, 1) := by decide +kernel
theorem dX12_nextOrder_48 : decode cX12_nextOrder 48 = .ok (.ireturn, 1) := by decide +kernel
theorem dX12_nextOrder_49 : decode cX12_nextOrder 49 = .ok (.aload_n 0, 1) := by decide +kernel
theorem dX12_nextOrder_50 : decode cX12_nextOrder 50 = .ok (.getfield 25, 3) := by decide +kernel
theorem dX12_nextOrder_53 : decode cX12_nextOrder 53 = .ok (.iconst 1, 1) := by decide +kernel
theorem dX12_nextOrder_54 : decode cX12_nextOrder 54 = .ok (.isub, 1) := by decide +kernel
theorem dX12_nextOrder_55 : decode cX12_nextOrder 55 = .ok (.istore_n 3, 1) := by decide +kernel
theorem dX12_nextOrder_56 : decode cX12_nextOrder 56 = .ok (.aload_n 0, 1) := by decide +kernel
theorem dX12_nextOrder_57 : decode cX12_nextOrder 57 = .ok (.getfield 29, 3) := by decide +kernel
theorem dX12_nextOrder_60 : decode cX12_nextOrder 60 = .ok (.iload_n 1, 1) := by decide +kernel
theorem dX12_nextOrder_61 : decode cX12_nextOrder 61 = .ok (.iload_n 3, 1) := by decide +kernel
theorem dX12_nextOrder_62 : decode cX12_nextOrder 62 = .ok (.iadd, 1) := by decide +kernel
theorem dX12_nextOrder_63 : decode cX12_nextOrder 63 = .ok (.iaload, 1) := by decide +kernel
theorem dX12_nextOrder_64 : decode cX12_nextOrder 64 = .ok (.aload_n 0, 1) := by decide +kernel
theorem dX12_nextOrder_65 : decode cX12_nextOrder 65 = .ok (.getfield 29, 3) := by decide +kernel
theorem dX12_nextOrder_68 : decode cX12_nextOrder 68 = .ok (.iload_n 1, 1) := by decide +kernel
theorem dX12_nextOrder_69 : decode cX12_nextOrder 69 = .ok (.iload_n 2, 1) := by decide +kernel
theorem dX12_nextOrder_70 : decode cX12_nextOrder 70 = .ok (.iadd, 1) := by decide +kernel
theorem dX12_nextOrder_71 : decode cX12_nextOrder 71 = .ok (.iaload, 1) := by decide +kernel
theorem dX12_nextOrder_72 : decode cX12_nextOrder 72 = .ok (.if_icmp .ge 10, 3) := by decide +kernel
theorem dX12_nextOrder_75 : decode cX12_nextOrder 75 = .ok (.iload_n 3, 1) := by decide +kernel
theorem dX12_nextOrder_76 : decode cX12_nextOrder 76 = .ok (.iconst 1, 1) := by decide +kernel
theorem dX12_nextOrder_77 : decode cX12_nextOrder 77 = .ok (.isub, 1) := by decide +kernel
theorem dX12_nextOrder_78 : decode cX12_nextOrder 78 = .ok (.istore_n 3, 1) := by decide +kernel
theorem dX12_nextOrder_79 : decode cX12_nextOrder 79 = .ok (.goto (-23), 3) := by decide +kernel
theorem dX12_nextOrder_82 : decode cX12_nextOrder 82 = .ok (.aload_n 0, 1) := by decide +kernel
theorem dX12_nextOrder_83 : decode cX12_nextOrder 83 = .ok (.getfield 29, 3) := by decide +kernel
theorem dX12_nextOrder_86 : decode cX12_nextOrder 86 = .ok (.iload_n 1, 1) := by decide +kernel
theorem dX12_nextOrder_87 : decode cX12_nextOrder 87 = .ok (.iload_n 2, 1) := by decide +kernel
theorem dX12_nextOrder_88 : decode cX12_nextOrder 88 = .ok (.iadd, 1) := by decide +kernel
theorem dX12_nextOrder_89 : decode cX12_nextOrder 89 = .ok (.iaload, 1) := by decide +kernel
theorem dX12_nextOrder_90 : decode cX12_nextOrder 90 = .ok (.istore 4, 2) := by decide +kernel
theorem dX12_nextOrder_92 : decode cX12_nextOrder 92 = .ok (.aload_n 0, 1) := by decide +kernel
theorem dX12_nextOrder_93 : decode cX12_nextOrder 93 = .ok (.getfield 29, 3) := by decide +kernel
theorem dX12_nextOrder_96 : decode cX12_nextOrder 96 = .ok (.iload_n 1, 1) := by decide +kernel
theorem dX12_nextOrder_97 : decode cX12_nextOrder 97 = .ok (.iload_n 2, 1) := by decide +kernel
theorem dX12_nextOrder_98 : decode cX12_nextOrder 98 = .ok (.iadd, 1) := by decide +kernel
theorem dX12_nextOrder_99 : decode cX12_nextOrder 99 = .ok (.aload_n 0, 1) := by decide +kernel
theorem dX12_nextOrder_100 : decode cX12_nextOrder 100 = .ok (.getfield 29, 3) := by decide +kernel
theorem dX12_nextOrder_103 : decode cX12_nextOrder 103 = .ok (.iload_n 1, 1) := by decide +kernel
theorem dX12_nextOrder_104 : decode cX12_nextOrder 104 = .ok (.iload_n 3, 1) := by decide +kernel
theorem dX12_nextOrder_105 : decode cX12_nextOrder 105 = .ok (.iadd, 1) := by decide +kernel
theorem dX12_nextOrder_106 : decode cX12_nextOrder 106 = .ok (.iaload, 1) := by decide +kernel
theorem dX12_nextOrder_107 : decode cX12_nextOrder 107 = .ok (.iastore, 1) := by decide +kernel
theorem dX12_nextOrder_108 : decode cX12_nextOrder 108 = .ok (.aload_n 0, 1) := by decide +kernel
theorem dX12_nextOrder_109 : decode cX12_nextOrder 109 = .ok (.getfield 29, 3) := by decide +kernel
theorem dX12_nextOrder_112 : decode cX12_nextOrder 112 = .ok (.iload_n 1, 1) := by decide +kernel
theorem dX12_nextOrder_113 : decode cX12_nextOrder 113 = .ok (.iload_n 3, 1) := by decide +kernel
theorem dX12_nextOrder_114 : decode cX12_nextOrder 114 = .ok (.iadd, 1) := by decide +kernel
theorem dX12_nextOrder_115 : decode cX12_nextOrder 115 = .ok (.iload 4, 2) := by decide +kernel
theorem dX12_nextOrder_117 : decode cX12_nextOrder 117 = .ok (.iastore, 1) := by decide +kernel
theorem dX12_nextOrder_118 : decode cX12_nextOrder 118 = .ok (.iload_n 2, 1) := by decide +kernel
theorem dX12_nextOrder_119 : decode cX12_nextOrder 119 = .ok (.iconst 1, 1) := by decide +kernel
theorem dX12_nextOrder_120 : decode cX12_nextOrder 120 = .ok (.iadd, 1) := by decide +kernel
theorem dX12_nextOrder_121 : decode cX12_nextOrder 121 = .ok (.istore 5, 2) := by decide +kernel
theorem dX12_nextOrder_123 : decode cX12_nextOrder 123 = .ok (.aload_n 0, 1) := by decide +kernel
theorem dX12_nextOrder_124 : decode cX12_nextOrder 124 = .ok (.getfield 25, 3) := by decide +kernel
theorem dX12_nextOrder_127 : decode cX12_nextOrder 127 = .ok (.iconst 1, 1) := by decide +kernel
theorem dX12_nextOrder_128 : decode cX12_nextOrder 128 = .ok (.isub, 1) := by decide +kernel
theorem dX12_nextOrder_129 : decode cX12_nextOrder 129 = .ok (.istore 6, 2) := by decide +kernel
theorem dX12_nextOrder_131 : decode cX12_nextOrder 131 = .ok (.iload 5, 2) := by decide +kernel
theorem dX12_nextOrder_133 : decode cX12_nextOrder 133 = .ok (.iload 6, 2) := by decide +kernel
theorem dX12_nextOrder_135 : decode cX12_nextOrder 135 = .ok (.if_icmp .ge 58, 3) := by decide +kernel
theorem dX12_nextOrder_138 : decode cX12_nextOrder 138 = .ok (.aload_n 0, 1) := by decide +kernel
theorem dX12_nextOrder_139 : decode cX12_nextOrder 139 = .ok (.getfield 29, 3) := by decide +kernel
theorem dX12_nextOrder_142 : decode cX12_nextOrder 142 = .ok (.iload_n 1, 1) := by decide +kernel
theorem dX12_nextOrder_143 : decode cX12_nextOrder 143 = .ok (.iload 5, 2) := by decide +kernel
theorem dX12_nextOrder_145 : decode cX12_nextOrder 145 = .ok (.iadd, 1) := by decide +kernel
theorem dX12_nextOrder_146 : decode cX12_nextOrder 146 = .ok (.iaload, 1) := by decide +kernel
theorem dX12_nextOrder_147 : decode cX12_nextOrder 147 = .ok (.istore 4, 2) := by decide +kernel
theorem dX12_nextOrder_149 : decode cX12_nextOrder 149 = .ok (.aload_n 0, 1) := by decide +kernel
theorem dX12_nextOrder_150 : decode cX12_nextOrder 150 = .ok (.getfield 29, 3) := by decide +kernel
theorem dX12_nextOrder_153 : decode cX12_nextOrder 153 = .ok (.iload_n 1, 1) := by decide +kernel
theorem dX12_nextOrder_154 : decode cX12_nextOrder 154 = .ok (.iload 5, 2) := by decide +kernel
theorem dX12_nextOrder_156 : decode cX12_nextOrder 156 = .ok (.iadd, 1) := by decide +kernel
theorem dX12_nextOrder_157 : decode cX12_nextOrder 157 = .ok (.aload_n 0, 1) := by decide +kernel
theorem dX12_nextOrder_158 : decode cX12_nextOrder 158 = .ok (.getfield 29, 3) := by decide +kernel
theorem dX12_nextOrder_161 : decode cX12_nextOrder 161 = .ok (.iload_n 1, 1) := by decide +kernel
theorem dX12_nextOrder_162 : decode cX12_nextOrder 162 = .ok (.iload 6, 2) := by decide +kernel
theorem dX12_nextOrder_164 : decode cX12_nextOrder 164 = .ok (.iadd, 1) := by decide +kernel
theorem dX12_nextOrder_165 : decode cX12_nextOrder 165 = .ok (.iaload, 1) := by decide +kernel
theorem dX12_nextOrder_166 : decode cX12_nextOrder 166 = .ok (.iastore, 1) := by decide +kernel
theorem dX12_nextOrder_167 : decode cX12_nextOrder 167 = .ok (.aload_n 0, 1) := by decide +kernel
theorem dX12_nextOrder_168 : decode cX12_nextOrder 168 = .ok (.getfield 29, 3) := by decide +kernel
theorem dX12_nextOrder_171 : decode cX12_nextOrder 171 = .ok (.iload_n 1, 1) := by decide +kernel
theorem dX12_nextOrder_172 : decode cX12_nextOrder 172 = .ok (.iload 6, 2) := by decide +kernel
theorem dX12_nextOrder_174 : decode cX12_nextOrder 174 = .ok (.iadd, 1) := by decide +kernel
theorem dX12_nextOrder_175 : decode cX12_nextOrder 175 = .ok (.iload 4, 2) := by decide +kernel
theorem dX12_nextOrder_177 : decode cX12_nextOrder 177 = .ok (.iastore, 1) := by decide +kernel
theorem dX12_nextOrder_178 : decode cX12_nextOrder 178 = .ok (.iload 5, 2) := by decide +kernel
theorem dX12_nextOrder_180 : decode cX12_nextOrder 180 = .ok (.iconst 1, 1) := by decide +kernel
theorem dX12_nextOrder_181 : decode cX12_nextOrder 181 = .ok (.iadd, 1) := by decide +kernel
theorem dX12_nextOrder_182 : decode cX12_nextOrder 182 = .ok (.istore 5, 2) := by decide +kernel
theorem dX12_nextOrder_184 : decode cX12_nextOrder 184 = .ok (.iload 6, 2) := by decide +kernel
theorem dX12_nextOrder_186 : decode cX12_nextOrder 186 = .ok (.iconst 1, 1) := by decide +kernel
theorem dX12_nextOrder_187 : decode cX12_nextOrder 187 = .ok (.isub, 1) := by decide +kernel
theorem dX12_nextOrder_188 : decode cX12_nextOrder 188 = .ok (.istore 6, 2) := by decide +kernel
theorem dX12_nextOrder_190 : decode cX12_nextOrder 190 = .ok (.goto (-59), 3) := by decide +kernel
theorem dX12_nextOrder_193 : decode cX12_nextOrder 193 = .ok (.iconst 1, 1) := by decide +kernel
theorem dX12_nextOrder_194 : decode cX12_nextOrder 194 = .ok (.ireturn, 1) := by decide +kernel
theorem dX12_isAlphabet_0 : decode cX12_isAlphabet 0 = .ok (.iconst 0, 1) := by decide +kernel
theorem dX12_isAlphabet_1 : decode cX12_isAlphabet 1 = .ok (.istore_n 2, 1) := by decide +kernel
theorem dX12_isAlphabet_2 : decode cX12_isAlphabet 2 = .ok (.iload_n 2, 1) := by decide +kernel
theorem dX12_isAlphabet_3 : decode cX12_isAlphabet 3 = .ok (.aload_n 0, 1) := by decide +kernel
theorem dX12_isAlphabet_4 : decode cX12_isAlphabet 4 = .ok (.getfield 25, 3) := by decide +kernel
theorem dX12_isAlphabet_7 : decode cX12_isAlphabet 7 = .ok (.if_icmp .ge 31, 3) := by decide +kernel
theorem dX12_isAlphabet_10 : decode cX12_isAlphabet 10 = .ok (.aload_n 0, 1) := by decide +kernel
theorem dX12_isAlphabet_11 : decode cX12_isAlphabet 11 = .ok (.getfield 29, 3) := by decide +kernel
theorem dX12_isAlphabet_14 : decode cX12_isAlphabet 14 = .ok (.bipush 8, 2) := by decide +kernel
theorem dX12_isAlphabet_16 : decode cX12_isAlphabet 16 = .ok (.iload_n 1, 1) := by decide +kernel
theorem dX12_isAlphabet_17 : decode cX12_isAlphabet 17 = .ok (.imul, 1) := by decide +kernel
theorem dX12_isAlphabet_18 : decode cX12_isAlphabet 18 = .ok (.iload_n 2, 1) := by decide +kernel
theorem dX12_isAlphabet_19 : decode cX12_isAlphabet 19 = .ok (.iadd, 1) := by decide +kernel
theorem dX12_isAlphabet_20 : decode cX12_isAlphabet 20 = .ok (.iaload, 1) := by decide +kernel
theorem dX12_isAlphabet_21 : decode cX12_isAlphabet 21 = .ok (.aload_n 0, 1) := by decide +kernel
theorem dX12_isAlphabet_22 : decode cX12_isAlphabet 22 = .ok (.getfield 29, 3) := by decide +kernel
theorem dX12_isAlphabet_25 : decode cX12_isAlphabet 25 = .ok (.iload_n 2, 1) := by decide +kernel
theorem dX12_isAlphabet_26 : decode cX12_isAlphabet 26 = .ok (.iaload, 1) := by decide +kernel
theorem dX12_isAlphabet_27 : decode cX12_isAlphabet 27 = .ok (.if_icmp .eq 5, 3) := by decide +kernel
theorem dX12_isAlphabet_30 : decode cX12_isAlphabet 30 = .ok (.iconst 0, 1) := by decide +kernel
theorem dX12_isAlphabet_31 : decode cX12_isAlphabet 31 = .ok (.ireturn, 1) := by decide +kernel
theorem dX12_isAlphabet_32 : decode cX12_isAlphabet 32 = .ok (.iinc 2 1, 3) := by decide +kernel
theorem dX12_isAlphabet_35 : decode cX12_isAlphabet 35 = .ok (.goto (-33), 3) := by decide +kernel
theorem dX12_isAlphabet_38 : decode cX12_isAlphabet 38 = .ok (.iconst 1, 1) := by decide +kernel
theorem dX12_isAlphabet_39 : decode cX12_isAlphabet 39 = .ok (.ireturn, 1) := by decide +kernel
theorem dX12_least_0 : decode cX12_least 0 = .ok (.aload_n 0, 1) := by decide +kernel
theorem dX12_least_1 : decode cX12_least 1 = .ok (.iconst 0, 1) := by decide +kernel
theorem dX12_least_2 : decode cX12_least 2 = .ok (.putfield 146, 3) := by decide +kernel
theorem dX12_least_5 : decode cX12_least 5 = .ok (.aload_n 0, 1) := by decide +kernel
theorem dX12_least_6 : decode cX12_least 6 = .ok (.invokevirtual 168, 3) := by decide +kernel
theorem dX12_least_9 : decode cX12_least 9 = .ok (.aload_n 0, 1) := by decide +kernel
theorem dX12_least_10 : decode cX12_least 10 = .ok (.getfield 25, 3) := by decide +kernel
theorem dX12_least_13 : decode cX12_least 13 = .ok (.bipush 6, 2) := by decide +kernel
theorem dX12_least_15 : decode cX12_least 15 = .ok (.if_icmp .gt 24, 3) := by decide +kernel
theorem dX12_least_18 : decode cX12_least 18 = .ok (.iload_n 1, 1) := by decide +kernel
theorem dX12_least_19 : decode cX12_least 19 = .ok (.ifCond .eq 22, 3) := by decide +kernel
theorem dX12_least_22 : decode cX12_least 22 = .ok (.aload_n 0, 1) := by decide +kernel
theorem dX12_least_23 : decode cX12_least 23 = .ok (.iload_n 1, 1) := by decide +kernel
theorem dX12_least_24 : decode cX12_least 24 = .ok (.bipush 10, 2) := by decide +kernel
theorem dX12_least_26 : decode cX12_least 26 = .ok (.bipush 9, 2) := by decide +kernel
theorem dX12_least_28 : decode cX12_least 28 = .ok (.aload_n 0, 1) := by decide +kernel
theorem dX12_least_29 : decode cX12_least 29 = .ok (.getfield 25, 3) := by decide +kernel
theorem dX12_least_32 : decode cX12_least 32 = .ok (.iadd, 1) := by decide +kernel
theorem dX12_least_33 : decode cX12_least 33 = .ok (.invokevirtual 160, 3) := by decide +kernel
theorem dX12_least_36 : decode cX12_least 36 = .ok (.ifCond .ne 5, 3) := by decide +kernel
theorem dX12_least_39 : decode cX12_least 39 = .ok (.iconst (-1), 1) := by decide +kernel
theorem dX12_least_40 : decode cX12_least 40 = .ok (.ireturn, 1) := by decide +kernel
theorem dX12_least_41 : decode cX12_least 41 = .ok (.iconst 0, 1) := by decide +kernel
theorem dX12_least_42 : decode cX12_least 42 = .ok (.istore_n 2, 1) := by decide +kernel
theorem dX12_least_43 : decode cX12_least 43 = .ok (.iload_n 2, 1) := by decide +kernel
theorem dX12_least_44 : decode cX12_least 44 = .ok (.aload_n 0, 1) := by decide +kernel
theorem dX12_least_45 : decode cX12_least 45 = .ok (.getfield 25, 3) := by decide +kernel
theorem dX12_least_48 : decode cX12_least 48 = .ok (.if_icmp .ge 20, 3) := by decide +kernel
theorem dX12_least_51 : decode cX12_least 51 = .ok (.aload_n 0, 1) := by decide +kernel
theorem dX12_least_52 : decode cX12_least 52 = .ok (.getfield 29, 3) := by decide +kernel
theorem dX12_least_55 : decode cX12_least 55 = .ok (.sipush 152, 3) := by decide +kernel
theorem dX12_least_58 : decode cX12_least 58 = .ok (.iload_n 2, 1) := by decide +kernel
theorem dX12_least_59 : decode cX12_least 59 = .ok (.iadd, 1) := by decide +kernel
theorem dX12_least_60 : decode cX12_least 60 = .ok (.iload_n 2, 1) := by decide +kernel
theorem dX12_least_61 : decode cX12_least 61 = .ok (.iastore, 1) := by decide +kernel
theorem dX12_least_62 : decode cX12_least 62 = .ok (.iinc 2 1, 3) := by decide +kernel
theorem dX12_least_65 : decode cX12_least 65 = .ok (.goto (-22), 3) := by decide +kernel
theorem dX12_least_68 : decode cX12_least 68 = .ok (.iconst (-1), 1) := by decide +kernel
theorem dX12_least_69 : decode cX12_least 69 = .ok (.istore_n 2, 1) := by decide +kernel
theorem dX12_least_70 : decode cX12_least 70 = .ok (.iconst 1, 1) := by decide +kernel
theorem dX12_least_71 : decode cX12_least 71 = .ok (.istore_n 3, 1) := by decide +kernel
theorem dX12_least_72 : decode cX12_least 72 = .ok (.iload_n 3, 1) := by decide +kernel
theorem dX12_least_73 : decode cX12_least 73 = .ok (.ifCond .eq 50, 3) := by decide +kernel
theorem dX12_least_76 : decode cX12_least 76 = .ok (.aload_n 0, 1) := by decide +kernel
theorem dX12_least_77 : decode cX12_least 77 = .ok (.bipush 19, 2) := by decide +kernel
theorem dX12_least_79 : decode cX12_least 79 = .ok (.invokevirtual 421, 3) := by decide +kernel
theorem dX12_least_82 : decode cX12_least 82 = .ok (.ifCond .ne 33, 3) := by decide +kernel
theorem dX12_least_85 : decode cX12_least 85 = .ok (.aload_n 0, 1) := by decide +kernel
theorem dX12_least_86 : decode cX12_least 86 = .ok (.bipush 19, 2) := by decide +kernel
theorem dX12_least_88 : decode cX12_least 88 = .ok (.invokevirtual 418, 3) := by decide +kernel
theorem dX12_least_91 : decode cX12_least 91 = .ok (.istore 4, 2) := by decide +kernel
theorem dX12_least_93 : decode cX12_least 93 = .ok (.iload_n 2, 1) := by decide +kernel
theorem dX12_least_94 : decode cX12_least 94 = .ok (.iconst (-1), 1) := by decide +kernel
theorem dX12_least_95 : decode cX12_least 95 = .ok (.if_icmp .eq 9, 3) := by decide +kernel
theorem dX12_least_98 : decode cX12_least 98 = .ok (.iload 4, 2) := by decide +kernel
theorem dX12_least_100 : decode cX12_least 100 = .ok (.iload_n 2, 1) := by decide +kernel
theorem dX12_least_101 : decode cX12_least 101 = .ok (.if_icmp .ge 14, 3) := by decide +kernel
theorem dX12_least_104 : decode cX12_least 104 = .ok (.iload 4, 2) := by decide +kernel
theorem dX12_least_106 : decode cX12_least 106 = .ok (.istore_n 2, 1) := by decide +kernel
theorem dX12_least_107 : decode cX12_least 107 = .ok (.aload_n 0, 1) := by decide +kernel
theorem dX12_least_108 : decode cX12_least 108 = .ok (.bipush 19, 2) := by decide +kernel
theorem dX12_least_110 : decode cX12_least 110 = .ok (.bipush 20, 2) := by decide +kernel
theorem dX12_least_112 : decode cX12_least 112 = .ok (.invokevirtual 198, 3) := by decide +kernel
theorem dX12_least_115 : decode cX12_least 115 = .ok (.aload_n 0, 1) := by decide +kernel
theorem dX12_least_116 : decode cX12_least 116 = .ok (.invokevirtual 424, 3) := by decide +kernel
theorem dX12_least_119 : decode cX12_least 119 = .ok (.istore_n 3, 1) := by decide +kernel
theorem dX12_least_120 : decode cX12_least 120 = .ok (.goto (-48), 3) := by decide +kernel
theorem dX12_least_123 : decode cX12_least 123 = .ok (.iload_n 1, 1) := by decide +kernel
theorem dX12_least_124 : decode cX12_least 124 = .ok (.ifCond .ne 7, 3) := by decide +kernel
theorem dX12_least_127 : decode cX12_least 127 = .ok (.iload_n 2, 1) := by decide +kernel
theorem dX12_least_128 : decode cX12_least 128 = .ok (.goto 16, 3) := by decide +kernel
theorem dX12_least_131 : decode cX12_least 131 = .ok (.aload_n 0, 1) := by decide +kernel
theorem dX12_least_132 : decode cX12_least 132 = .ok (.getfield 29, 3) := by decide +kernel
theorem dX12_least_135 : decode cX12_least 135 = .ok (.sipush 160, 3) := by decide +kernel
theorem dX12_least_138 : decode cX12_least 138 = .ok (.iload_n 1, 1) := by decide +kernel
theorem dX12_least_139 : decode cX12_least 139 = .ok (.iadd, 1) := by decide +kernel
theorem dX12_least_140 : decode cX12_least 140 = .ok (.bipush 10, 2) := by decide +kernel
theorem dX12_least_142 : decode cX12_least 142 = .ok (.isub, 1) := by decide +kernel
theorem dX12_least_143 : decode cX12_least 143 = .ok (.iaload, 1) := by decide +kernel
theorem dX12_least_144 : decode cX12_least 144 = .ok (.ireturn, 1) := by decide +kernel
theorem dX12_anew_0 : decode cX12_anew 0 = .ok (.aload_n 0, 1) := by decide +kernel
theorem dX12_anew_1 : decode cX12_anew 1 = .ok (.iconst 0, 1) := by decide +kernel
theorem dX12_anew_2 : decode cX12_anew 2 = .ok (.putfield 146, 3) := by decide +kernel
theorem dX12_anew_5 : decode cX12_anew 5 = .ok (.aload_n 0, 1) := by decide +kernel
theorem dX12_anew_6 : decode cX12_anew 6 = .ok (.invokevirtual 195, 3) := by decide +kernel
theorem dX12_anew_9 : decode cX12_anew 9 = .ok (.istore_n 2, 1) := by decide +kernel
theorem dX12_anew_10 : decode cX12_anew 10 = .ok (.iload_n 2, 1) := by decide +kernel
theorem dX12_anew_11 : decode cX12_anew 11 = .ok (.ifCond .eq 13, 3) := by decide +kernel
theorem dX12_anew_14 : decode cX12_anew 14 = .ok (.aload_n 0, 1) := by decide +kernel
theorem dX12_anew_15 : decode cX12_anew 15 = .ok (.iload_n 1, 1) := by decide +kernel
theorem dX12_anew_16 : decode cX12_anew 16 = .ok (.iconst 0, 1) := by decide +kernel
theorem dX12_anew_17 : decode cX12_anew 17 = .ok (.iconst 1, 1) := by decide +kernel
theorem dX12_anew_18 : decode cX12_anew 18 = .ok (.invokevirtual 160, 3) := by decide +kernel
theorem dX12_anew_21 : decode cX12_anew 21 = .ok (.ifCond .ne 5, 3) := by decide +kernel
theorem dX12_anew_24 : decode cX12_anew 24 = .ok (.iconst (-1), 1) := by decide +kernel
theorem dX12_anew_25 : decode cX12_anew 25 = .ok (.ireturn, 1) := by decide +kernel
theorem dX12_anew_26 : decode cX12_anew 26 = .ok (.aload_n 0, 1) := by decide +kernel
theorem dX12_anew_27 : decode cX12_anew 27 = .ok (.iconst 0, 1) := by decide +kernel
theorem dX12_anew_28 : decode cX12_anew 28 = .ok (.invokevirtual 318, 3) := by decide +kernel
theorem dX12_anew_31 : decode cX12_anew 31 = .ok (.iconst 0, 1) := by decide +kernel
theorem dX12_anew_32 : decode cX12_anew 32 = .ok (.istore_n 3, 1) := by decide +kernel
theorem dX12_anew_33 : decode cX12_anew 33 = .ok (.iload_n 3, 1) := by decide +kernel
theorem dX12_anew_34 : decode cX12_anew 34 = .ok (.aload_n 0, 1) := by decide +kernel
theorem dX12_anew_35 : decode cX12_anew 35 = .ok (.getfield 154, 3) := by decide +kernel
theorem dX12_anew_38 : decode cX12_anew 38 = .ok (.if_icmp .ge 21, 3) := by decide +kernel
theorem dX12_anew_41 : decode cX12_anew 41 = .ok (.aload_n 0, 1) := by decide +kernel
theorem dX12_anew_42 : decode cX12_anew 42 = .ok (.getfield 134, 3) := by decide +kernel
theorem dX12_anew_45 : decode cX12_anew 45 = .ok (.aload_n 0, 1) := by decide +kernel
theorem dX12_anew_46 : decode cX12_anew 46 = .ok (.getfield 95, 3) := by decide +kernel
theorem dX12_anew_49 : decode cX12_anew 49 = .ok (.iload_n 3, 1) := by decide +kernel
theorem dX12_anew_50 : decode cX12_anew 50 = .ok (.iaload, 1) := by decide +kernel
theorem dX12_anew_51 : decode cX12_anew 51 = .ok (.iload_n 3, 1) := by decide +kernel
theorem dX12_anew_52 : decode cX12_anew 52 = .ok (.iastore, 1) := by decide +kernel
theorem dX12_anew_53 : decode cX12_anew 53 = .ok (.iinc 3 1, 3) := by decide +kernel
theorem dX12_anew_56 : decode cX12_anew 56 = .ok (.goto (-23), 3) := by decide +kernel
theorem dX12_anew_59 : decode cX12_anew 59 = .ok (.aload_n 0, 1) := by decide +kernel
theorem dX12_anew_60 : decode cX12_anew 60 = .ok (.bipush 19, 2) := by decide +kernel
theorem dX12_anew_62 : decode cX12_anew 62 = .ok (.invokevirtual 318, 3) := by decide +kernel
theorem dX12_anew_65 : decode cX12_anew 65 = .ok (.iconst 0, 1) := by decide +kernel
theorem dX12_anew_66 : decode cX12_anew 66 = .ok (.istore_n 3, 1) := by decide +kernel
theorem dX12_anew_67 : decode cX12_anew 67 = .ok (.iconst 0, 1) := by decide +kernel
theorem dX12_anew_68 : decode cX12_anew 68 = .ok (.istore 4, 2) := by decide +kernel
theorem dX12_anew_70 : decode cX12_anew 70 = .ok (.iconst 0, 1) := by decide +kernel
theorem dX12_anew_71 : decode cX12_anew 71 = .ok (.istore 5, 2) := by decide +kernel
theorem dX12_anew_73 : decode cX12_anew 73 = .ok (.iload 5, 2) := by decide +kernel
theorem dX12_anew_75 : decode cX12_anew 75 = .ok (.aload_n 0, 1) := by decide +kernel
theorem dX12_anew_76 : decode cX12_anew 76 = .ok (.getfield 154, 3) := by decide +kernel
theorem dX12_anew_79 : decode cX12_anew 79 = .ok (.if_icmp .ge 236, 3) := by decide +kernel
theorem dX12_anew_82 : decode cX12_anew 82 = .ok (.aload_n 0, 1) := by decide +kernel
theorem dX12_anew_83 : decode cX12_anew 83 = .ok (.getfield 95, 3) := by decide +kernel
theorem dX12_anew_86 : decode cX12_anew 86 = .ok (.iload 5, 2) := by decide +kernel
theorem dX12_anew_88 : decode cX12_anew 88 = .ok (.iaload, 1) := by decide +kernel
theorem dX12_anew_89 : decode cX12_anew 89 = .ok (.istore 6, 2) := by decide +kernel
theorem dX12_anew_91 : decode cX12_anew 91 = .ok (.aload_n 0, 1) := by decide +kernel
theorem dX12_anew_92 : decode cX12_anew 92 = .ok (.getfield 137, 3) := by decide +kernel
theorem dX12_anew_95 : decode cX12_anew 95 = .ok (.iload 5, 2) := by decide +kernel
theorem dX12_anew_97 : decode cX12_anew 97 = .ok (.iconst 1, 1) := by decide +kernel
theorem dX12_anew_98 : decode cX12_anew 98 = .ok (.iastore, 1) := by decide +kernel
theorem dX12_anew_99 : decode cX12_anew 99 = .ok (.aload_n 0, 1) := by decide +kernel
theorem dX12_anew_100 : decode cX12_anew 100 = .ok (.getfield 140, 3) := by decide +kernel
theorem dX12_anew_103 : decode cX12_anew 103 = .ok (.iload 5, 2) := by decide +kernel
theorem dX12_anew_105 : decode cX12_anew 105 = .ok (.iconst 0, 1) := by decide +kernel
theorem dX12_anew_106 : decode cX12_anew 106 = .ok (.iastore, 1) := by decide +kernel
theorem dX12_anew_107 : decode cX12_anew 107 = .ok (.iconst 0, 1) := by decide +kernel
theorem dX12_anew_108 : decode cX12_anew 108 = .ok (.istore 7, 2) := by decide +kernel
theorem dX12_anew_110 : decode cX12_anew 110 = .ok (.iload 7, 2) := by decide +kernel
theorem dX12_anew_112 : decode cX12_anew 112 = .ok (.iload 5, 2) := by decide +kernel
theorem dX12_anew_114 : decode cX12_anew 114 = .ok (.if_icmp .ge 122, 3) := by decide +kernel
theorem dX12_anew_117 : decode cX12_anew 117 = .ok (.aload_n 0, 1) := by decide +kernel
theorem dX12_anew_118 : decode cX12_anew 118 = .ok (.getfield 134, 3) := by decide +kernel
theorem dX12_anew_121 : decode cX12_anew 121 = .ok (.aload_n 0, 1) := by decide +kernel
theorem dX12_anew_122 : decode cX12_anew 122 = .ok (.getfield 95, 3) := by decide +kernel
theorem dX12_anew_125 : decode cX12_anew 125 = .ok (.iload 7, 2) := by decide +kernel
theorem dX12_anew_127 : decode cX12_anew 127 = .ok (.iaload, 1) := by decide +kernel
theorem dX12_anew_128 : decode cX12_anew 128 = .ok (.iaload, 1) := by decide +kernel
theorem dX12_anew_129 : decode cX12_anew 129 = .ok (.aload_n 0, 1) := by decide +kernel
theorem dX12_anew_130 : decode cX12_anew 130 = .ok (.getfield 134, 3) := by decide +kernel
theorem dX12_anew_133 : decode cX12_anew 133 = .ok (.iload 6, 2) := by decide +kernel
theorem dX12_anew_135 : decode cX12_anew 135 = .ok (.iaload, 1) := by decide +kernel
theorem dX12_anew_136 : decode cX12_anew 136 = .ok (.if_icmp .gt 94, 3) := by decide +kernel
theorem dX12_anew_139 : decode cX12_anew 139 = .ok (.aload_n 0, 1) := by decide +kernel
theorem dX12_anew_140 : decode cX12_anew 140 = .ok (.getfield 137, 3) := by decide +kernel
theorem dX12_anew_143 : decode cX12_anew 143 = .ok (.iload 7, 2) := by decide +kernel
theorem dX12_anew_145 : decode cX12_anew 145 = .ok (.iaload, 1) := by decide +kernel
theorem dX12_anew_146 : decode cX12_anew 146 = .ok (.iconst 1, 1) := by decide +kernel
theorem dX12_anew_147 : decode cX12_anew 147 = .ok (.iadd, 1) := by decide +kernel
theorem dX12_anew_148 : decode cX12_anew 148 = .ok (.aload_n 0, 1) := by decide +kernel
theorem dX12_anew_149 : decode cX12_anew 149 = .ok (.getfield 137, 3) := by decide +kernel
theorem dX12_anew_152 : decode cX12_anew 152 = .ok (.iload 5, 2) := by decide +kernel
theorem dX12_anew_154 : decode cX12_anew 154 = .ok (.iaload, 1) := by decide +kernel
theorem dX12_anew_155 : decode cX12_anew 155 = .ok (.if_icmp .ge 6, 3) := by decide +kernel
theorem dX12_anew_158 : decode cX12_anew 158 = .ok (.goto 72, 3) := by decide +kernel
theorem dX12_anew_161 : decode cX12_anew 161 = .ok (.aload_n 0, 1) := by decide +kernel
theorem dX12_anew_162 : decode cX12_anew 162 = .ok (.getfield 137, 3) := by decide +kernel
theorem dX12_anew_165 : decode cX12_anew 165 = .ok (.iload 7, 2) := by decide +kernel
theorem dX12_anew_167 : decode cX12_anew 167 = .ok (.iaload, 1) := by decide +kernel
theorem dX12_anew_168 : decode cX12_anew 168 = .ok (.iconst 1, 1) := by decide +kernel
theorem dX12_anew_169 : decode cX12_anew 169 = .ok (.iadd, 1) := by decide +kernel
theorem dX12_anew_170 : decode cX12_anew 170 = .ok (.aload_n 0, 1) := by decide +kernel
theorem dX12_anew_171 : decode cX12_anew 171 = .ok (.getfield 137, 3) := by decide +kernel
theorem dX12_anew_174 : decode cX12_anew 174 = .ok (.iload 5, 2) := by decide +kernel
theorem dX12_anew_176 : decode cX12_anew 176 = .ok (.iaload, 1) := by decide +kernel
theorem dX12_anew_177 : decode cX12_anew 177 = .ok (.if_icmp .ne 23, 3) := by decide +kernel
theorem dX12_anew_180 : decode cX12_anew 180 = .ok (.aload_n 0, 1) := by decide +kernel
theorem dX12_anew_181 : decode cX12_anew 181 = .ok (.getfield 140, 3) := by decide +kernel
theorem dX12_anew_184 : decode cX12_anew 184 = .ok (.iload 7, 2) := by decide +kernel
theorem dX12_anew_186 : decode cX12_anew 186 = .ok (.iaload, 1) := by decide +kernel
theorem dX12_anew_187 : decode cX12_anew 187 = .ok (.aload_n 0, 1) := by decide +kernel
theorem dX12_anew_188 : decode cX12_anew 188 = .ok (.getfield 140, 3) := by decide +kernel
theorem dX12_anew_191 : decode cX12_anew 191 = .ok (.iload 5, 2) := by decide +kernel
theorem dX12_anew_193 : decode cX12_anew 193 = .ok (.iaload, 1) := by decide +kernel
theorem dX12_anew_194 : decode cX12_anew 194 = .ok (.if_icmp .lt 6, 3) := by decide +kernel
theorem dX12_anew_197 : decode cX12_anew 197 = .ok (.goto 33, 3) := by decide +kernel
theorem dX12_anew_200 : decode cX12_anew 200 = .ok (.aload_n 0, 1) := by decide +kernel
theorem dX12_anew_201 : decode cX12_anew 201 = .ok (.getfield 137, 3) := by decide +kernel
theorem dX12_anew_204 : decode cX12_anew 204 = .ok (.iload 5, 2) := by decide +kernel
theorem dX12_anew_206 : decode cX12_anew 206 = .ok (.aload_n 0, 1) := by decide +kernel
theorem dX12_anew_207 : decode cX12_anew 207 = .ok (.getfield 137, 3) := by decide +kernel
theorem dX12_anew_210 : decode cX12_anew 210 = .ok (.iload 7, 2) := by decide +kernel
theorem dX12_anew_212 : decode cX12_anew 212 = .ok (.iaload, 1) := by decide +kernel
theorem dX12_anew_213 : decode cX12_anew 213 = .ok (.iconst 1, 1) := by decide +kernel
theorem dX12_anew_214 : decode cX12_anew 214 = .ok (.iadd, 1) := by decide +kernel
theorem dX12_anew_215 : decode cX12_anew 215 = .ok (.iastore, 1) := by decide +kernel
theorem dX12_anew_216 : decode cX12_anew 216 = .ok (.aload_n 0, 1) := by decide +kernel
theorem dX12_anew_217 : decode cX12_anew 217 = .ok (.getfield 140, 3) := by decide +kernel
theorem dX12_anew_220 : decode cX12_anew 220 = .ok (.iload 5, 2) := by decide +kernel
theorem dX12_anew_222 : decode cX12_anew 222 = .ok (.aload_n 0, 1) := by decide +kernel
theorem dX12_anew_223 : decode cX12_anew 223 = .ok (.getfield 140, 3) := by decide +kernel
theorem dX12_anew_226 : decode cX12_anew 226 = .ok (.iload 7, 2) := by decide +kernel
theorem dX12_anew_228 : decode cX12_anew 228 = .ok (.iaload, 1) := by decide +kernel
theorem dX12_anew_229 : decode cX12_anew 229 = .ok (.iastore, 1) := by decide +kernel
theorem dX12_anew_230 : decode cX12_anew 230 = .ok (.iinc 7 1, 3) := by decide +kernel
theorem dX12_anew_233 : decode cX12_anew 233 = .ok (.goto (-123), 3) := by decide +kernel
theorem dX12_anew_236 : decode cX12_anew 236 = .ok (.aload_n 0, 1) := by decide +kernel
theorem dX12_anew_237 : decode cX12_anew 237 = .ok (.getfield 140, 3) := by decide +kernel
theorem dX12_anew_240 : decode cX12_anew 240 = .ok (.iload 5, 2) := by decide +kernel
theorem dX12_anew_242 : decode cX12_anew 242 = .ok (.aload_n 0, 1) := by decide +kernel
theorem dX12_anew_243 : decode cX12_anew 243 = .ok (.getfield 140, 3) := by decide +kernel
theorem dX12_anew_246 : decode cX12_anew 246 = .ok (.iload 5, 2) := by decide +kernel
theorem dX12_anew_248 : decode cX12_anew 248 = .ok (.iaload, 1) := by decide +kernel
theorem dX12_anew_249 : decode cX12_anew 249 = .ok (.iconst 1, 1) := by decide +kernel
theorem dX12_anew_250 : decode cX12_anew 250 = .ok (.iload 6, 2) := by decide +kernel
theorem dX12_anew_252 : decode cX12_anew 252 = .ok (.ishl, 1) := by decide +kernel
theorem dX12_anew_253 : decode cX12_anew 253 = .ok (.ior, 1) := by decide +kernel
theorem dX12_anew_254 : decode cX12_anew 254 = .ok (.iastore, 1) := by decide +kernel
theorem dX12_anew_255 : decode cX12_anew 255 = .ok (.aload_n 0, 1) := by decide +kernel
theorem dX12_anew_256 : decode cX12_anew 256 = .ok (.getfield 137, 3) := by decide +kernel
theorem dX12_anew_259 : decode cX12_anew 259 = .ok (.iload 5, 2) := by decide +kernel
theorem dX12_anew_261 : decode cX12_anew 261 = .ok (.iaload, 1) := by decide +kernel
theorem dX12_anew_262 : decode cX12_anew 262 = .ok (.iload_n 3, 1) := by decide +kernel
theorem dX12_anew_263 : decode cX12_anew 263 = .ok (.if_icmp .lt 46, 3) := by decide +kernel
theorem dX12_anew_266 : decode cX12_anew 266 = .ok (.aload_n 0, 1) := by decide +kernel
theorem dX12_anew_267 : decode cX12_anew 267 = .ok (.getfield 137, 3) := by decide +kernel
theorem dX12_anew_270 : decode cX12_anew 270 = .ok (.iload 5, 2) := by decide +kernel
theorem dX12_anew_272 : decode cX12_anew 272 = .ok (.iaload, 1) := by decide +kernel
theorem dX12_anew_273 : decode cX12_anew 273 = .ok (.iload_n 3, 1) := by decide +kernel
theorem dX12_anew_274 : decode cX12_anew 274 = .ok (.if_icmp .ne 18, 3) := by decide +kernel
theorem dX12_anew_277 : decode cX12_anew 277 = .ok (.aload_n 0, 1) := by decide +kernel
theorem dX12_anew_278 : decode cX12_anew 278 = .ok (.getfield 140, 3) := by decide +kernel
theorem dX12_anew_281 : decode cX12_anew 281 = .ok (.iload 5, 2) := by decide +kernel
theorem dX12_anew_283 : decode cX12_anew 283 = .ok (.iaload, 1) := by decide +kernel
theorem dX12_anew_284 : decode cX12_anew 284 = .ok (.iload 4, 2) := by decide +kernel
theorem dX12_anew_286 : decode cX12_anew 286 = .ok (.if_icmp .lt 6, 3) := by decide +kernel
theorem dX12_anew_289 : decode cX12_anew 289 = .ok (.goto 20, 3) := by decide +kernel
theorem dX12_anew_292 : decode cX12_anew 292 = .ok (.aload_n 0, 1) := by decide +kernel
theorem dX12_anew_293 : decode cX12_anew 293 = .ok (.getfield 137, 3) := by decide +kernel
theorem dX12_anew_296 : decode cX12_anew 296 = .ok (.iload 5, 2) := by decide +kernel
theorem dX12_anew_298 : decode cX12_anew 298 = .ok (.iaload, 1) := by decide +kernel
theorem dX12_anew_299 : decode cX12_anew 299 = .ok (.istore_n 3, 1) := by decide +kernel
theorem dX12_anew_300 : decode cX12_anew 300 = .ok (.aload_n 0, 1) := by decide +kernel
theorem dX12_anew_301 : decode cX12_anew 301 = .ok (.getfield 140, 3) := by decide +kernel
theorem dX12_anew_304 : decode cX12_anew 304 = .ok (.iload 5, 2) := by decide +kernel
theorem dX12_anew_306 : decode cX12_anew 306 = .ok (.iaload, 1) := by decide +kernel
theorem dX12_anew_307 : decode cX12_anew 307 = .ok (.istore 4, 2) := by decide +kernel
theorem dX12_anew_309 : decode cX12_anew 309 = .ok (.iinc 5 1, 3) := by decide +kernel
theorem dX12_anew_312 : decode cX12_anew 312 = .ok (.goto (-239), 3) := by decide +kernel
theorem dX12_anew_315 : decode cX12_anew 315 = .ok (.iload_n 1, 1) := by decide +kernel
theorem dX12_anew_316 : decode cX12_anew 316 = .ok (.ifCond .ne 12, 3) := by decide +kernel
theorem dX12_anew_319 : decode cX12_anew 319 = .ok (.aload_n 0, 1) := by decide +kernel
theorem dX12_anew_320 : decode cX12_anew 320 = .ok (.getfield 154, 3) := by decide +kernel
theorem dX12_anew_323 : decode cX12_anew 323 = .ok (.iload_n 3, 1) := by decide +kernel
theorem dX12_anew_324 : decode cX12_anew 324 = .ok (.isub, 1) := by decide +kernel
theorem dX12_anew_325 : decode cX12_anew 325 = .ok (.goto 5, 3) := by decide +kernel
theorem dX12_anew_328 : decode cX12_anew 328 = .ok (.iload 4, 2) := by decide +kernel
theorem dX12_anew_330 : decode cX12_anew 330 = .ok (.ireturn, 1) := by decide +kernel
theorem dX12_yearGoes_0 : decode cX12_yearGoes 0 = .ok (.aload_n 0, 1) := by decide +kernel
theorem dX12_yearGoes_1 : decode cX12_yearGoes 1 = .ok (.iconst 0, 1) := by decide +kernel
theorem dX12_yearGoes_2 : decode cX12_yearGoes 2 = .ok (.invokevirtual 324, 3) := by decide +kernel
theorem dX12_yearGoes_5 : decode cX12_yearGoes 5 = .ok (.iconst 0, 1) := by decide +kernel
theorem dX12_yearGoes_6 : decode cX12_yearGoes 6 = .ok (.istore_n 1, 1) := by decide +kernel
theorem dX12_yearGoes_7 : decode cX12_yearGoes 7 = .ok (.iload_n 1, 1) := by decide +kernel
theorem dX12_yearGoes_8 : decode cX12_yearGoes 8 = .ok (.aload_n 0, 1) := by decide +kernel
theorem dX12_yearGoes_9 : decode cX12_yearGoes 9 = .ok (.getfield 154, 3) := by decide +kernel
theorem dX12_yearGoes_12 : decode cX12_yearGoes 12 = .ok (.if_icmp .ge 42, 3) := by decide +kernel
theorem dX12_yearGoes_15 : decode cX12_yearGoes 15 = .ok (.aload_n 0, 1) := by decide +kernel
theorem dX12_yearGoes_16 : decode cX12_yearGoes 16 = .ok (.getfield 22, 3) := by decide +kernel
theorem dX12_yearGoes_19 : decode cX12_yearGoes 19 = .ok (.iload_n 1, 1) := by decide +kernel
theorem dX12_yearGoes_20 : decode cX12_yearGoes 20 = .ok (.aload_n 0, 1) := by decide +kernel
theorem dX12_yearGoes_21 : decode cX12_yearGoes 21 = .ok (.getfield 22, 3) := by decide +kernel
theorem dX12_yearGoes_24 : decode cX12_yearGoes 24 = .ok (.iload_n 1, 1) := by decide +kernel
theorem dX12_yearGoes_25 : decode cX12_yearGoes 25 = .ok (.iaload, 1) := by decide +kernel
theorem dX12_yearGoes_26 : decode cX12_yearGoes 26 = .ok (.aload_n 0, 1) := by decide +kernel
theorem dX12_yearGoes_27 : decode cX12_yearGoes 27 = .ok (.getfield 98, 3) := by decide +kernel
theorem dX12_yearGoes_30 : decode cX12_yearGoes 30 = .ok (.iload_n 1, 1) := by decide +kernel
theorem dX12_yearGoes_31 : decode cX12_yearGoes 31 = .ok (.iaload, 1) := by decide +kernel
theorem dX12_yearGoes_32 : decode cX12_yearGoes 32 = .ok (.iadd, 1) := by decide +kernel
theorem dX12_yearGoes_33 : decode cX12_yearGoes 33 = .ok (.iastore, 1) := by decide +kernel
theorem dX12_yearGoes_34 : decode cX12_yearGoes 34 = .ok (.aload_n 0, 1) := by decide +kernel
theorem dX12_yearGoes_35 : decode cX12_yearGoes 35 = .ok (.getfield 19, 3) := by decide +kernel
theorem dX12_yearGoes_38 : decode cX12_yearGoes 38 = .ok (.iload_n 1, 1) := by decide +kernel
theorem dX12_yearGoes_39 : decode cX12_yearGoes 39 = .ok (.aload_n 0, 1) := by decide +kernel
theorem dX12_yearGoes_40 : decode cX12_yearGoes 40 = .ok (.getfield 19, 3) := by decide +kernel
theorem dX12_yearGoes_43 : decode cX12_yearGoes 43 = .ok (.iload_n 1, 1) := by decide +kernel
theorem dX12_yearGoes_44 : decode cX12_yearGoes 44 = .ok (.iaload, 1) := by decide +kernel
theorem dX12_yearGoes_45 : decode cX12_yearGoes 45 = .ok (.iconst 1, 1) := by decide +kernel
theorem dX12_yearGoes_46 : decode cX12_yearGoes 46 = .ok (.iadd, 1) := by decide +kernel
theorem dX12_yearGoes_47 : decode cX12_yearGoes 47 = .ok (.iastore, 1) := by decide +kernel
theorem dX12_yearGoes_48 : decode cX12_yearGoes 48 = .ok (.iinc 1 1, 3) := by decide +kernel
theorem dX12_yearGoes_51 : decode cX12_yearGoes 51 = .ok (.goto (-44), 3) := by decide +kernel
theorem dX12_yearGoes_54 : decode cX12_yearGoes 54 = .ok (.iconst 0, 1) := by decide +kernel
theorem dX12_yearGoes_55 : decode cX12_yearGoes 55 = .ok (.istore_n 1, 1) := by decide +kernel
theorem dX12_yearGoes_56 : decode cX12_yearGoes 56 = .ok (.iload_n 1, 1) := by decide +kernel
theorem dX12_yearGoes_57 : decode cX12_yearGoes 57 = .ok (.aload_n 0, 1) := by decide +kernel
theorem dX12_yearGoes_58 : decode cX12_yearGoes 58 = .ok (.getfield 154, 3) := by decide +kernel
theorem dX12_yearGoes_61 : decode cX12_yearGoes 61 = .ok (.if_icmp .ge 53, 3) := by decide +kernel
theorem dX12_yearGoes_64 : decode cX12_yearGoes 64 = .ok (.aload_n 0, 1) := by decide +kernel
theorem dX12_yearGoes_65 : decode cX12_yearGoes 65 = .ok (.getfield 19, 3) := by decide +kernel
theorem dX12_yearGoes_68 : decode cX12_yearGoes 68 = .ok (.iload_n 1, 1) := by decide +kernel
theorem dX12_yearGoes_69 : decode cX12_yearGoes 69 = .ok (.iaload, 1) := by decide +kernel
theorem dX12_yearGoes_70 : decode cX12_yearGoes 70 = .ok (.bipush 99, 2) := by decide +kernel
theorem dX12_yearGoes_72 : decode cX12_yearGoes 72 = .ok (.if_icmp .gt 6, 3) := by decide +kernel
theorem dX12_yearGoes_75 : decode cX12_yearGoes 75 = .ok (.goto 33, 3) := by decide +kernel
theorem dX12_yearGoes_78 : decode cX12_yearGoes 78 = .ok (.aload_n 0, 1) := by decide +kernel
theorem dX12_yearGoes_79 : decode cX12_yearGoes 79 = .ok (.getfield 19, 3) := by decide +kernel
theorem dX12_yearGoes_82 : decode cX12_yearGoes 82 = .ok (.iload_n 1, 1) := by decide +kernel
theorem dX12_yearGoes_83 : decode cX12_yearGoes 83 = .ok (.iconst 0, 1) := by decide +kernel
theorem dX12_yearGoes_84 : decode cX12_yearGoes 84 = .ok (.iastore, 1) := by decide +kernel
theorem dX12_yearGoes_85 : decode cX12_yearGoes 85 = .ok (.aload_n 0, 1) := by decide +kernel
theorem dX12_yearGoes_86 : decode cX12_yearGoes 86 = .ok (.getfield 171, 3) := by decide +kernel
theorem dX12_yearGoes_89 : decode cX12_yearGoes 89 = .ok (.ifCond .le 19, 3) := by decide +kernel
theorem dX12_yearGoes_92 : decode cX12_yearGoes 92 = .ok (.aload_n 0, 1) := by decide +kernel
theorem dX12_yearGoes_93 : decode cX12_yearGoes 93 = .ok (.bipush 20, 2) := by decide +kernel
theorem dX12_yearGoes_95 : decode cX12_yearGoes 95 = .ok (.aload_n 0, 1) := by decide +kernel
theorem dX12_yearGoes_96 : decode cX12_yearGoes 96 = .ok (.aload_n 0, 1) := by decide +kernel
theorem dX12_yearGoes_97 : decode cX12_yearGoes 97 = .ok (.getfield 171, 3) := by decide +kernel
theorem dX12_yearGoes_100 : decode cX12_yearGoes 100 = .ok (.invokevirtual 427, 3) := by decide +kernel
theorem dX12_yearGoes_103 : decode cX12_yearGoes 103 = .ok (.iadd, 1) := by decide +kernel
theorem dX12_yearGoes_104 : decode cX12_yearGoes 104 = .ok (.iload_n 1, 1) := by decide +kernel
theorem dX12_yearGoes_105 : decode cX12_yearGoes 105 = .ok (.invokevirtual 187, 3) := by decide +kernel
theorem dX12_yearGoes_108 : decode cX12_yearGoes 108 = .ok (.iinc 1 1, 3) := by decide +kernel
theorem dX12_yearGoes_111 : decode cX12_yearGoes 111 = .ok (.goto (-55), 3) := by decide +kernel
theorem dX12_yearGoes_114 : decode cX12_yearGoes 114 = .ok (.aload_n 0, 1) := by decide +kernel
theorem dX12_yearGoes_115 : decode cX12_yearGoes 115 = .ok (.aload_n 0, 1) := by decide +kernel
theorem dX12_yearGoes_116 : decode cX12_yearGoes 116 = .ok (.getfield 177, 3) := by decide +kernel
theorem dX12_yearGoes_119 : decode cX12_yearGoes 119 = .ok (.iconst 1, 1) := by decide +kernel
theorem dX12_yearGoes_120 : decode cX12_yearGoes 120 = .ok (.iadd, 1) := by decide +kernel
theorem dX12_yearGoes_121 : decode cX12_yearGoes 121 = .ok (.putfield 177, 3) := by decide +kernel
theorem dX12_yearGoes_124 : decode cX12_yearGoes 124 = .ok (.aload_n 0, 1) := by decide +kernel
theorem dX12_yearGoes_125 : decode cX12_yearGoes 125 = .ok (.getfield 177, 3) := by decide +kernel
theorem dX12_yearGoes_128 : decode cX12_yearGoes 128 = .ok (.bipush 10, 2) := by decide +kernel
theorem dX12_yearGoes_130 : decode cX12_yearGoes 130 = .ok (.irem, 1) := by decide +kernel
theorem dX12_yearGoes_131 : decode cX12_yearGoes 131 = .ok (.ifCond .le 4, 3) := by decide +kernel
theorem dX12_yearGoes_134 : decode cX12_yearGoes 134 = .ok (.return_, 1) := by decide +kernel
theorem dX12_yearGoes_135 : decode cX12_yearGoes 135 = .ok (.aload_n 0, 1) := by decide +kernel
theorem dX12_yearGoes_136 : decode cX12_yearGoes 136 = .ok (.iconst 0, 1) := by decide +kernel
theorem dX12_yearGoes_137 : decode cX12_yearGoes 137 = .ok (.putfield 382, 3) := by decide +kernel
theorem dX12_yearGoes_140 : decode cX12_yearGoes 140 = .ok (.aload_n 0, 1) := by decide +kernel
theorem dX12_yearGoes_141 : decode cX12_yearGoes 141 = .ok (.aload_n 0, 1) := by decide +kernel
theorem dX12_yearGoes_142 : decode cX12_yearGoes 142 = .ok (.getfield 32, 3) := by decide +kernel
theorem dX12_yearGoes_145 : decode cX12_yearGoes 145 = .ok (.bipush 6, 2) := by decide +kernel
theorem dX12_yearGoes_147 : decode cX12_yearGoes 147 = .ok (.iaload, 1) := by decide +kernel
theorem dX12_yearGoes_148 : decode cX12_yearGoes 148 = .ok (.invokevirtual 409, 3) := by decide +kernel
theorem dX12_yearGoes_151 : decode cX12_yearGoes 151 = .ok (.aload_n 0, 1) := by decide +kernel
theorem dX12_yearGoes_152 : decode cX12_yearGoes 152 = .ok (.bipush 20, 2) := by decide +kernel
theorem dX12_yearGoes_154 : decode cX12_yearGoes 154 = .ok (.iconst 0, 1) := by decide +kernel
theorem dX12_yearGoes_155 : decode cX12_yearGoes 155 = .ok (.invokevirtual 198, 3) := by decide +kernel
theorem dX12_yearGoes_158 : decode cX12_yearGoes 158 = .ok (.return_, 1) := by decide +kernel
theorem dX12_years_0 : decode cX12_years 0 = .ok (.aload_n 0, 1) := by decide +kernel
theorem dX12_years_1 : decode cX12_years 1 = .ok (.iconst 0, 1) := by decide +kernel
theorem dX12_years_2 : decode cX12_years 2 = .ok (.putfield 146, 3) := by decide +kernel
theorem dX12_years_5 : decode cX12_years 5 = .ok (.aload_n 0, 1) := by decide +kernel
theorem dX12_years_6 : decode cX12_years 6 = .ok (.iload_n 1, 1) := by decide +kernel
theorem dX12_years_7 : decode cX12_years 7 = .ok (.iconst 1, 1) := by decide +kernel
theorem dX12_years_8 : decode cX12_years 8 = .ok (.bipush 60, 2) := by decide +kernel
theorem dX12_years_10 : decode cX12_years 10 = .ok (.invokevirtual 160, 3) := by decide +kernel
theorem dX12_years_13 : decode cX12_years 13 = .ok (.ifCond .ne 5, 3) := by decide +kernel
theorem dX12_years_16 : decode cX12_years 16 = .ok (.iconst (-1), 1) := by decide +kernel
theorem dX12_years_17 : decode cX12_years 17 = .ok (.ireturn, 1) := by decide +kernel
theorem dX12_years_18 : decode cX12_years 18 = .ok (.iconst 0, 1) := by decide +kernel
theorem dX12_years_19 : decode cX12_years 19 = .ok (.istore_n 2, 1) := by decide +kernel
theorem dX12_years_20 : decode cX12_years 20 = .ok (.iload_n 2, 1) := by decide +kernel
theorem dX12_years_21 : decode cX12_years 21 = .ok (.iload_n 1, 1) := by decide +kernel
theorem dX12_years_22 : decode cX12_years 22 = .ok (.if_icmp .ge 13, 3) := by decide +kernel
theorem dX12_years_25 : decode cX12_years 25 = .ok (.aload_n 0, 1) := by decide +kernel
theorem dX12_years_26 : decode cX12_years 26 = .ok (.invokevirtual 430, 3) := by decide +kernel
theorem dX12_years_29 : decode cX12_years 29 = .ok (.iinc 2 1, 3) := by decide +kernel
theorem dX12_years_32 : decode cX12_years 32 = .ok (.goto (-12), 3) := by decide +kernel
theorem dX12_years_35 : decode cX12_years 35 = .ok (.aload_n 0, 1) := by decide +kernel
theorem dX12_years_36 : decode cX12_years 36 = .ok (.getfield 177, 3) := by decide +kernel
theorem dX12_years_39 : decode cX12_years 39 = .ok (.ireturn, 1) := by decide +kernel
theorem dX12_kept_0 : decode cX12_kept 0 = .ok (.aload_n 0, 1) := by decide +kernel
theorem dX12_kept_1 : decode cX12_kept 1 = .ok (.aload_n 0, 1) := by decide +kernel
theorem dX12_kept_2 : decode cX12_kept 2 = .ok (.getfield 433, 3) := by decide +kernel
theorem dX12_kept_5 : decode cX12_kept 5 = .ok (.iconst 1, 1) := by decide +kernel
theorem dX12_kept_6 : decode cX12_kept 6 = .ok (.iadd, 1) := by decide +kernel
theorem dX12_kept_7 : decode cX12_kept 7 = .ok (.putfield 433, 3) := by decide +kernel
theorem dX12_kept_10 : decode cX12_kept 10 = .ok (.aload_n 0, 1) := by decide +kernel
theorem dX12_kept_11 : decode cX12_kept 11 = .ok (.getfield 436, 3) := by decide +kernel
theorem dX12_kept_14 : decode cX12_kept 14 = .ok (.ifCond .ne 15, 3) := by decide +kernel
theorem dX12_kept_17 : decode cX12_kept 17 = .ok (.aload_n 0, 1) := by decide +kernel
theorem dX12_kept_18 : decode cX12_kept 18 = .ok (.getfield 143, 3) := by decide +kernel
theorem dX12_kept_21 : decode cX12_kept 21 = .ok (.aload_n 0, 1) := by decide +kernel
theorem dX12_kept_22 : decode cX12_kept 22 = .ok (.getfield 433, 3) := by decide +kernel
theorem dX12_kept_25 : decode cX12_kept 25 = .ok (.iconst 1, 1) := by decide +kernel
theorem dX12_kept_26 : decode cX12_kept 26 = .ok (.isub, 1) := by decide +kernel
theorem dX12_kept_27 : decode cX12_kept 27 = .ok (.iaload, 1) := by decide +kernel
theorem dX12_kept_28 : decode cX12_kept 28 = .ok (.ireturn, 1) := by decide +kernel
theorem dX12_kept_29 : decode cX12_kept 29 = .ok (.aload_n 0, 1) := by decide +kernel
theorem dX12_kept_30 : decode cX12_kept 30 = .ok (.getfield 143, 3) := by decide +kernel
theorem dX12_kept_33 : decode cX12_kept 33 = .ok (.aload_n 0, 1) := by decide +kernel
theorem dX12_kept_34 : decode cX12_kept 34 = .ok (.getfield 433, 3) := by decide +kernel
theorem dX12_kept_37 : decode cX12_kept 37 = .ok (.iconst 1, 1) := by decide +kernel
theorem dX12_kept_38 : decode cX12_kept 38 = .ok (.isub, 1) := by decide +kernel
theorem dX12_kept_39 : decode cX12_kept 39 = .ok (.iload_n 1, 1) := by decide +kernel
theorem dX12_kept_40 : decode cX12_kept 40 = .ok (.iastore, 1) := by decide +kernel
theorem dX12_kept_41 : decode cX12_kept 41 = .ok (.iload_n 1, 1) := by decide +kernel
theorem dX12_kept_42 : decode cX12_kept 42 = .ok (.ireturn, 1) := by decide +kernel
theorem dX12_keepsPeople_0 : decode cX12_keepsPeople 0 = .ok (.aload_n 0, 1) := by decide +kernel
theorem dX12_keepsPeople_1 : decode cX12_keepsPeople 1 = .ok (.aload_n 0, 1) := by decide +kernel
theorem dX12_keepsPeople_2 : decode cX12_keepsPeople 2 = .ok (.aload_n 0, 1) := by decide +kernel
theorem dX12_keepsPeople_3 : decode cX12_keepsPeople 3 = .ok (.getfield 154, 3) := by decide +kernel
theorem dX12_keepsPeople_6 : decode cX12_keepsPeople 6 = .ok (.invokevirtual 439, 3) := by decide +kernel
theorem dX12_keepsPeople_9 : decode cX12_keepsPeople 9 = .ok (.putfield 154, 3) := by decide +kernel
theorem dX12_keepsPeople_12 : decode cX12_keepsPeople 12 = .ok (.iconst 0, 1) := by decide +kernel
theorem dX12_keepsPeople_13 : decode cX12_keepsPeople 13 = .ok (.istore_n 1, 1) := by decide +kernel
theorem dX12_keepsPeople_14 : decode cX12_keepsPeople 14 = .ok (.iload_n 1, 1) := by decide +kernel
theorem dX12_keepsPeople_15 : decode cX12_keepsPeople 15 = .ok (.bipush 20, 2) := by decide +kernel
theorem dX12_keepsPeople_17 : decode cX12_keepsPeople 17 = .ok (.if_icmp .ge 57, 3) := by decide +kernel
theorem dX12_keepsPeople_20 : decode cX12_keepsPeople 20 = .ok (.aload_n 0, 1) := by decide +kernel
theorem dX12_keepsPeople_21 : decode cX12_keepsPeople 21 = .ok (.getfield 16, 3) := by decide +kernel
theorem dX12_keepsPeople_24 : decode cX12_keepsPeople 24 = .ok (.iload_n 1, 1) := by decide +kernel
theorem dX12_keepsPeople_25 : decode cX12_keepsPeople 25 = .ok (.aload_n 0, 1) := by decide +kernel
theorem dX12_keepsPeople_26 : decode cX12_keepsPeople 26 = .ok (.aload_n 0, 1) := by decide +kernel
theorem dX12_keepsPeople_27 : decode cX12_keepsPeople 27 = .ok (.getfield 16, 3) := by decide +kernel
theorem dX12_keepsPeople_30 : decode cX12_keepsPeople 30 = .ok (.iload_n 1, 1) := by decide +kernel
theorem dX12_keepsPeople_31 : decode cX12_keepsPeople 31 = .ok (.iaload, 1) := by decide +kernel
theorem dX12_keepsPeople_32 : decode cX12_keepsPeople 32 = .ok (.invokevirtual 439, 3) := by decide +kernel
theorem dX12_keepsPeople_35 : decode cX12_keepsPeople 35 = .ok (.iastore, 1) := by decide +kernel
theorem dX12_keepsPeople_36 : decode cX12_keepsPeople 36 = .ok (.aload_n 0, 1) := by decide +kernel
theorem dX12_keepsPeople_37 : decode cX12_keepsPeople 37 = .ok (.getfield 19, 3) := by decide +kernel
theorem dX12_keepsPeople_40 : decode cX12_keepsPeople 40 = .ok (.iload_n 1, 1) := by decide +kernel
theorem dX12_keepsPeople_41 : decode cX12_keepsPeople 41 = .ok (.aload_n 0, 1) := by decide +kernel
theorem dX12_keepsPeople_42 : decode cX12_keepsPeople 42 = .ok (.aload_n 0, 1) := by decide +kernel
theorem dX12_keepsPeople_43 : decode cX12_keepsPeople 43 = .ok (.getfield 19, 3) := by decide +kernel
theorem dX12_keepsPeople_46 : decode cX12_keepsPeople 46 = .ok (.iload_n 1, 1) := by decide +kernel
theorem dX12_keepsPeople_47 : decode cX12_keepsPeople 47 = .ok (.iaload, 1) := by decide +kernel
theorem dX12_keepsPeople_48 : decode cX12_keepsPeople 48 = .ok (.invokevirtual 439, 3) := by decide +kernel
theorem dX12_keepsPeople_51 : decode cX12_keepsPeople 51 = .ok (.iastore, 1) := by decide +kernel
theorem dX12_keepsPeople_52 : decode cX12_keepsPeople 52 = .ok (.aload_n 0, 1) := by decide +kernel
theorem dX12_keepsPeople_53 : decode cX12_keepsPeople 53 = .ok (.getfield 22, 3) := by decide +kernel
theorem dX12_keepsPeople_56 : decode cX12_keepsPeople 56 = .ok (.iload_n 1, 1) := by decide +kernel
theorem dX12_keepsPeople_57 : decode cX12_keepsPeople 57 = .ok (.aload_n 0, 1) := by decide +kernel
theorem dX12_keepsPeople_58 : decode cX12_keepsPeople 58 = .ok (.aload_n 0, 1) := by decide +kernel
theorem dX12_keepsPeople_59 : decode cX12_keepsPeople 59 = .ok (.getfield 22, 3) := by decide +kernel
theorem dX12_keepsPeople_62 : decode cX12_keepsPeople 62 = .ok (.iload_n 1, 1) := by decide +kernel
theorem dX12_keepsPeople_63 : decode cX12_keepsPeople 63 = .ok (.iaload, 1) := by decide +kernel
theorem dX12_keepsPeople_64 : decode cX12_keepsPeople 64 = .ok (.invokevirtual 439, 3) := by decide +kernel
theorem dX12_keepsPeople_67 : decode cX12_keepsPeople 67 = .ok (.iastore, 1) := by decide +kernel
theorem dX12_keepsPeople_68 : decode cX12_keepsPeople 68 = .ok (.iinc 1 1, 3) := by decide +kernel
theorem dX12_keepsPeople_71 : decode cX12_keepsPeople 71 = .ok (.goto (-57), 3) := by decide +kernel
theorem dX12_keepsPeople_74 : decode cX12_keepsPeople 74 = .ok (.aload_n 0, 1) := by decide +kernel
theorem dX12_keepsPeople_75 : decode cX12_keepsPeople 75 = .ok (.aload_n 0, 1) := by decide +kernel
theorem dX12_keepsPeople_76 : decode cX12_keepsPeople 76 = .ok (.aload_n 0, 1) := by decide +kernel
theorem dX12_keepsPeople_77 : decode cX12_keepsPeople 77 = .ok (.getfield 171, 3) := by decide +kernel
theorem dX12_keepsPeople_80 : decode cX12_keepsPeople 80 = .ok (.invokevirtual 439, 3) := by decide +kernel
theorem dX12_keepsPeople_83 : decode cX12_keepsPeople 83 = .ok (.putfield 171, 3) := by decide +kernel
theorem dX12_keepsPeople_86 : decode cX12_keepsPeople 86 = .ok (.iconst 0, 1) := by decide +kernel
theorem dX12_keepsPeople_87 : decode cX12_keepsPeople 87 = .ok (.istore_n 1, 1) := by decide +kernel
theorem dX12_keepsPeople_88 : decode cX12_keepsPeople 88 = .ok (.iload_n 1, 1) := by decide +kernel
theorem dX12_keepsPeople_89 : decode cX12_keepsPeople 89 = .ok (.bipush 30, 2) := by decide +kernel
theorem dX12_keepsPeople_91 : decode cX12_keepsPeople 91 = .ok (.if_icmp .ge 25, 3) := by decide +kernel
theorem dX12_keepsPeople_94 : decode cX12_keepsPeople 94 = .ok (.aload_n 0, 1) := by decide +kernel
theorem dX12_keepsPeople_95 : decode cX12_keepsPeople 95 = .ok (.getfield 7, 3) := by decide +kernel
theorem dX12_keepsPeople_98 : decode cX12_keepsPeople 98 = .ok (.iload_n 1, 1) := by decide +kernel
theorem dX12_keepsPeople_99 : decode cX12_keepsPeople 99 = .ok (.aload_n 0, 1) := by decide +kernel
theorem dX12_keepsPeople_100 : decode cX12_keepsPeople 100 = .ok (.aload_n 0, 1) := by decide +kernel
theorem dX12_keepsPeople_101 : decode cX12_keepsPeople 101 = .ok (.getfield 7, 3) := by decide +kernel
theorem dX12_keepsPeople_104 : decode cX12_keepsPeople 104 = .ok (.iload_n 1, 1) := by decide +kernel
theorem dX12_keepsPeople_105 : decode cX12_keepsPeople 105 = .ok (.iaload, 1) := by decide +kernel
theorem dX12_keepsPeople_106 : decode cX12_keepsPeople 106 = .ok (.invokevirtual 439, 3) := by decide +kernel
theorem dX12_keepsPeople_109 : decode cX12_keepsPeople 109 = .ok (.iastore, 1) := by decide +kernel
theorem dX12_keepsPeople_110 : decode cX12_keepsPeople 110 = .ok (.iinc 1 1, 3) := by decide +kernel
theorem dX12_keepsPeople_113 : decode cX12_keepsPeople 113 = .ok (.goto (-25), 3) := by decide +kernel
theorem dX12_keepsPeople_116 : decode cX12_keepsPeople 116 = .ok (.iconst 0, 1) := by decide +kernel
theorem dX12_keepsPeople_117 : decode cX12_keepsPeople 117 = .ok (.istore_n 1, 1) := by decide +kernel
theorem dX12_keepsPeople_118 : decode cX12_keepsPeople 118 = .ok (.iload_n 1, 1) := by decide +kernel
theorem dX12_keepsPeople_119 : decode cX12_keepsPeople 119 = .ok (.sipush 180, 3) := by decide +kernel
theorem dX12_keepsPeople_122 : decode cX12_keepsPeople 122 = .ok (.if_icmp .ge 25, 3) := by decide +kernel
theorem dX12_keepsPeople_125 : decode cX12_keepsPeople 125 = .ok (.aload_n 0, 1) := by decide +kernel
theorem dX12_keepsPeople_126 : decode cX12_keepsPeople 126 = .ok (.getfield 13, 3) := by decide +kernel
theorem dX12_keepsPeople_129 : decode cX12_keepsPeople 129 = .ok (.iload_n 1, 1) := by decide +kernel
theorem dX12_keepsPeople_130 : decode cX12_keepsPeople 130 = .ok (.aload_n 0, 1) := by decide +kernel
theorem dX12_keepsPeople_131 : decode cX12_keepsPeople 131 = .ok (.aload_n 0, 1) := by decide +kernel
theorem dX12_keepsPeople_132 : decode cX12_keepsPeople 132 = .ok (.getfield 13, 3) := by decide +kernel
theorem dX12_keepsPeople_135 : decode cX12_keepsPeople 135 = .ok (.iload_n 1, 1) := by decide +kernel
theorem dX12_keepsPeople_136 : decode cX12_keepsPeople 136 = .ok (.iaload, 1) := by decide +kernel
theorem dX12_keepsPeople_137 : decode cX12_keepsPeople 137 = .ok (.invokevirtual 439, 3) := by decide +kernel
theorem dX12_keepsPeople_140 : decode cX12_keepsPeople 140 = .ok (.iastore, 1) := by decide +kernel
theorem dX12_keepsPeople_141 : decode cX12_keepsPeople 141 = .ok (.iinc 1 1, 3) := by decide +kernel
theorem dX12_keepsPeople_144 : decode cX12_keepsPeople 144 = .ok (.goto (-26), 3) := by decide +kernel
theorem dX12_keepsPeople_147 : decode cX12_keepsPeople 147 = .ok (.return_, 1) := by decide +kernel
theorem dX12_keepsNaming_0 : decode cX12_keepsNaming 0 = .ok (.aload_n 0, 1) := by decide +kernel
theorem dX12_keepsNaming_1 : decode cX12_keepsNaming 1 = .ok (.aload_n 0, 1) := by decide +kernel
theorem dX12_keepsNaming_2 : decode cX12_keepsNaming 2 = .ok (.aload_n 0, 1) := by decide +kernel
theorem dX12_keepsNaming_3 : decode cX12_keepsNaming 3 = .ok (.getfield 180, 3) := by decide +kernel
theorem dX12_keepsNaming_6 : decode cX12_keepsNaming 6 = .ok (.invokevirtual 439, 3) := by decide +kernel
theorem dX12_keepsNaming_9 : decode cX12_keepsNaming 9 = .ok (.putfield 180, 3) := by decide +kernel
theorem dX12_keepsNaming_12 : decode cX12_keepsNaming 12 = .ok (.iconst 0, 1) := by decide +kernel
theorem dX12_keepsNaming_13 : decode cX12_keepsNaming 13 = .ok (.istore_n 1, 1) := by decide +kernel
theorem dX12_keepsNaming_14 : decode cX12_keepsNaming 14 = .ok (.iload_n 1, 1) := by decide +kernel
theorem dX12_keepsNaming_15 : decode cX12_keepsNaming 15 = .ok (.bipush 16, 2) := by decide +kernel
theorem dX12_keepsNaming_17 : decode cX12_keepsNaming 17 = .ok (.if_icmp .ge 57, 3) := by decide +kernel
theorem dX12_keepsNaming_20 : decode cX12_keepsNaming 20 = .ok (.aload_n 0, 1) := by decide +kernel
theorem dX12_keepsNaming_21 : decode cX12_keepsNaming 21 = .ok (.getfield 65, 3) := by decide +kernel
theorem dX12_keepsNaming_24 : decode cX12_keepsNaming 24 = .ok (.iload_n 1, 1) := by decide +kernel
theorem dX12_keepsNaming_25 : decode cX12_keepsNaming 25 = .ok (.aload_n 0, 1) := by decide +kernel
theorem dX12_keepsNaming_26 : decode cX12_keepsNaming 26 = .ok (.aload_n 0, 1) := by decide +kernel
theorem dX12_keepsNaming_27 : decode cX12_keepsNaming 27 = .ok (.getfield 65, 3) := by decide +kernel
theorem dX12_keepsNaming_30 : decode cX12_keepsNaming 30 = .ok (.iload_n 1, 1) := by decide +kernel
theorem dX12_keepsNaming_31 : decode cX12_keepsNaming 31 = .ok (.iaload, 1) := by decide +kernel
theorem dX12_keepsNaming_32 : decode cX12_keepsNaming 32 = .ok (.invokevirtual 439, 3) := by decide +kernel
theorem dX12_keepsNaming_35 : decode cX12_keepsNaming 35 = .ok (.iastore, 1) := by decide +kernel
theorem dX12_keepsNaming_36 : decode cX12_keepsNaming 36 = .ok (.aload_n 0, 1) := by decide +kernel
theorem dX12_keepsNaming_37 : decode cX12_keepsNaming 37 = .ok (.getfield 68, 3) := by decide +kernel
theorem dX12_keepsNaming_40 : decode cX12_keepsNaming 40 = .ok (.iload_n 1, 1) := by decide +kernel
theorem dX12_keepsNaming_41 : decode cX12_keepsNaming 41 = .ok (.aload_n 0, 1) := by decide +kernel
theorem dX12_keepsNaming_42 : decode cX12_keepsNaming 42 = .ok (.aload_n 0, 1) := by decide +kernel
theorem dX12_keepsNaming_43 : decode cX12_keepsNaming 43 = .ok (.getfield 68, 3) := by decide +kernel
theorem dX12_keepsNaming_46 : decode cX12_keepsNaming 46 = .ok (.iload_n 1, 1) := by decide +kernel
theorem dX12_keepsNaming_47 : decode cX12_keepsNaming 47 = .ok (.iaload, 1) := by decide +kernel
theorem dX12_keepsNaming_48 : decode cX12_keepsNaming 48 = .ok (.invokevirtual 439, 3) := by decide +kernel
theorem dX12_keepsNaming_51 : decode cX12_keepsNaming 51 = .ok (.iastore, 1) := by decide +kernel
theorem dX12_keepsNaming_52 : decode cX12_keepsNaming 52 = .ok (.aload_n 0, 1) := by decide +kernel
theorem dX12_keepsNaming_53 : decode cX12_keepsNaming 53 = .ok (.getfield 71, 3) := by decide +kernel
theorem dX12_keepsNaming_56 : decode cX12_keepsNaming 56 = .ok (.iload_n 1, 1) := by decide +kernel
theorem dX12_keepsNaming_57 : decode cX12_keepsNaming 57 = .ok (.aload_n 0, 1) := by decide +kernel
theorem dX12_keepsNaming_58 : decode cX12_keepsNaming 58 = .ok (.aload_n 0, 1) := by decide +kernel
theorem dX12_keepsNaming_59 : decode cX12_keepsNaming 59 = .ok (.getfield 71, 3) := by decide +kernel
theorem dX12_keepsNaming_62 : decode cX12_keepsNaming 62 = .ok (.iload_n 1, 1) := by decide +kernel
theorem dX12_keepsNaming_63 : decode cX12_keepsNaming 63 = .ok (.iaload, 1) := by decide +kernel
theorem dX12_keepsNaming_64 : decode cX12_keepsNaming 64 = .ok (.invokevirtual 439, 3) := by decide +kernel
theorem dX12_keepsNaming_67 : decode cX12_keepsNaming 67 = .ok (.iastore, 1) := by decide +kernel
theorem dX12_keepsNaming_68 : decode cX12_keepsNaming 68 = .ok (.iinc 1 1, 3) := by decide +kernel
theorem dX12_keepsNaming_71 : decode cX12_keepsNaming 71 = .ok (.goto (-57), 3) := by decide +kernel
theorem dX12_keepsNaming_74 : decode cX12_keepsNaming 74 = .ok (.iconst 0, 1) := by decide +kernel
theorem dX12_keepsNaming_75 : decode cX12_keepsNaming 75 = .ok (.istore_n 1, 1) := by decide +kernel
theorem dX12_keepsNaming_76 : decode cX12_keepsNaming 76 = .ok (.iload_n 1, 1) := by decide +kernel
theorem dX12_keepsNaming_77 : decode cX12_keepsNaming 77 = .ok (.sipush 400, 3) := by decide +kernel
theorem dX12_keepsNaming_80 : decode cX12_keepsNaming 80 = .ok (.if_icmp .ge 41, 3) := by decide +kernel
theorem dX12_keepsNaming_83 : decode cX12_keepsNaming 83 = .ok (.aload_n 0, 1) := by decide +kernel
theorem dX12_keepsNaming_84 : decode cX12_keepsNaming 84 = .ok (.getfield 74, 3) := by decide +kernel
theorem dX12_keepsNaming_87 : decode cX12_keepsNaming 87 = .ok (.iload_n 1, 1) := by decide +kernel
theorem dX12_keepsNaming_88 : decode cX12_keepsNaming 88 = .ok (.aload_n 0, 1) := by decide +kernel
theorem dX12_keepsNaming_89 : decode cX12_keepsNaming 89 = .ok (.aload_n 0, 1) := by decide +kernel
theorem dX12_keepsNaming_90 : decode cX12_keepsNaming 90 = .ok (.getfield 74, 3) := by decide +kernel
theorem dX12_keepsNaming_93 : decode cX12_keepsNaming 93 = .ok (.iload_n 1, 1) := by decide +kernel
theorem dX12_keepsNaming_94 : decode cX12_keepsNaming 94 = .ok (.iaload, 1) := by decide +kernel
theorem dX12_keepsNaming_95 : decode cX12_keepsNaming 95 = .ok (.invokevirtual 439, 3) := by decide +kernel
theorem dX12_keepsNaming_98 : decode cX12_keepsNaming 98 = .ok (.iastore, 1) := by decide +kernel
theorem dX12_keepsNaming_99 : decode cX12_keepsNaming 99 = .ok (.aload_n 0, 1) := by decide +kernel
theorem dX12_keepsNaming_100 : decode cX12_keepsNaming 100 = .ok (.getfield 77, 3) := by decide +kernel
theorem dX12_keepsNaming_103 : decode cX12_keepsNaming 103 = .ok (.iload_n 1, 1) := by decide +kernel
theorem dX12_keepsNaming_104 : decode cX12_keepsNaming 104 = .ok (.aload_n 0, 1) := by decide +kernel
theorem dX12_keepsNaming_105 : decode cX12_keepsNaming 105 = .ok (.aload_n 0, 1) := by decide +kernel
theorem dX12_keepsNaming_106 : decode cX12_keepsNaming 106 = .ok (.getfield 77, 3) := by decide +kernel
theorem dX12_keepsNaming_109 : decode cX12_keepsNaming 109 = .ok (.iload_n 1, 1) := by decide +kernel
theorem dX12_keepsNaming_110 : decode cX12_keepsNaming 110 = .ok (.iaload, 1) := by decide +kernel
theorem dX12_keepsNaming_111 : decode cX12_keepsNaming 111 = .ok (.invokevirtual 439, 3) := by decide +kernel
theorem dX12_keepsNaming_114 : decode cX12_keepsNaming 114 = .ok (.iastore, 1) := by decide +kernel
theorem dX12_keepsNaming_115 : decode cX12_keepsNaming 115 = .ok (.iinc 1 1, 3) := by decide +kernel
theorem dX12_keepsNaming_118 : decode cX12_keepsNaming 118 = .ok (.goto (-42), 3) := by decide +kernel
theorem dX12_keepsNaming_121 : decode cX12_keepsNaming 121 = .ok (.return_, 1) := by decide +kernel
theorem dX12_image_0 : decode cX12_image 0 = .ok (.aload_n 0, 1) := by decide +kernel
theorem dX12_image_1 : decode cX12_image 1 = .ok (.iconst 0, 1) := by decide +kernel
theorem dX12_image_2 : decode cX12_image 2 = .ok (.putfield 146, 3) := by decide +kernel
theorem dX12_image_5 : decode cX12_image 5 = .ok (.aload_n 0, 1) := by decide +kernel
theorem dX12_image_6 : decode cX12_image 6 = .ok (.invokevirtual 168, 3) := by decide +kernel
theorem dX12_image_9 : decode cX12_image 9 = .ok (.iload_n 1, 1) := by decide +kernel
theorem dX12_image_10 : decode cX12_image 10 = .ok (.ifCond .ne 12, 3) := by decide +kernel
theorem dX12_image_13 : decode cX12_image 13 = .ok (.aload_n 0, 1) := by decide +kernel
theorem dX12_image_14 : decode cX12_image 14 = .ok (.getfield 442, 3) := by decide +kernel
theorem dX12_image_17 : decode cX12_image 17 = .ok (.ifCond .ne 5, 3) := by decide +kernel
theorem dX12_image_20 : decode cX12_image 20 = .ok (.iconst 0, 1) := by decide +kernel
theorem dX12_image_21 : decode cX12_image 21 = .ok (.ireturn, 1) := by decide +kernel
theorem dX12_image_22 : decode cX12_image 22 = .ok (.aload_n 0, 1) := by decide +kernel
theorem dX12_image_23 : decode cX12_image 23 = .ok (.iload_n 1, 1) := by decide +kernel
theorem dX12_image_24 : decode cX12_image 24 = .ok (.putfield 436, 3) := by decide +kernel
theorem dX12_image_27 : decode cX12_image 27 = .ok (.aload_n 0, 1) := by decide +kernel
theorem dX12_image_28 : decode cX12_image 28 = .ok (.iconst 1, 1) := by decide +kernel
theorem dX12_image_29 : decode cX12_image 29 = .ok (.putfield 442, 3) := by decide +kernel
theorem dX12_image_32 : decode cX12_image 32 = .ok (.aload_n 0, 1) := by decide +kernel
theorem dX12_image_33 : decode cX12_image 33 = .ok (.iconst 0, 1) := by decide +kernel
theorem dX12_image_34 : decode cX12_image 34 = .ok (.putfield 433, 3) := by decide +kernel
theorem dX12_image_37 : decode cX12_image 37 = .ok (.aload_n 0, 1) := by decide +kernel
theorem dX12_image_38 : decode cX12_image 38 = .ok (.aload_n 0, 1) := by decide +kernel
theorem dX12_image_39 : decode cX12_image 39 = .ok (.aload_n 0, 1) := by decide +kernel
theorem dX12_image_40 : decode cX12_image 40 = .ok (.getfield 149, 3) := by decide +kernel
theorem dX12_image_43 : decode cX12_image 43 = .ok (.invokevirtual 439, 3) := by decide +kernel
theorem dX12_image_46 : decode cX12_image 46 = .ok (.putfield 149, 3) := by decide +kernel
theorem dX12_image_49 : decode cX12_image 49 = .ok (.aload_n 0, 1) := by decide +kernel
theorem dX12_image_50 : decode cX12_image 50 = .ok (.aload_n 0, 1) := by decide +kernel
theorem dX12_image_51 : decode cX12_image 51 = .ok (.aload_n 0, 1) := by decide +kernel
theorem dX12_image_52 : decode cX12_image 52 = .ok (.getfield 25, 3) := by decide +kernel
theorem dX12_image_55 : decode cX12_image 55 = .ok (.invokevirtual 439, 3) := by decide +kernel
theorem dX12_image_58 : decode cX12_image 58 = .ok (.putfield 25, 3) := by decide +kernel
theorem dX12_image_61 : decode cX12_image 61 = .ok (.aload_n 0, 1) := by decide +kernel
theorem dX12_image_62 : decode cX12_image 62 = .ok (.aload_n 0, 1) := by decide +kernel
theorem dX12_image_63 : decode cX12_image 63 = .ok (.aload_n 0, 1) := by decide +kernel
theorem dX12_image_64 : decode cX12_image 64 = .ok (.getfield 177, 3) := by decide +kernel
theorem dX12_image_67 : decode cX12_image 67 = .ok (.invokevirtual 439, 3) := by decide +kernel
theorem dX12_image_70 : decode cX12_image 70 = .ok (.putfield 177, 3) := by decide +kernel
theorem dX12_image_73 : decode cX12_image 73 = .ok (.aload_n 0, 1) := by decide +kernel
theorem dX12_image_74 : decode cX12_image 74 = .ok (.aload_n 0, 1) := by decide +kernel
theorem dX12_image_75 : decode cX12_image 75 = .ok (.aload_n 0, 1) := by decide +kernel
theorem dX12_image_76 : decode cX12_image 76 = .ok (.getfield 174, 3) := by decide +kernel
theorem dX12_image_79 : decode cX12_image 79 = .ok (.invokevirtual 439, 3) := by decide +kernel
theorem dX12_image_82 : decode cX12_image 82 = .ok (.putfield 174, 3) := by decide +kernel
theorem dX12_image_85 : decode cX12_image 85 = .ok (.iconst 0, 1) := by decide +kernel
theorem dX12_image_86 : decode cX12_image 86 = .ok (.istore_n 2, 1) := by decide +kernel
theorem dX12_image_87 : decode cX12_image 87 = .ok (.iload_n 2, 1) := by decide +kernel
theorem dX12_image_88 : decode cX12_image 88 = .ok (.sipush 152, 3) := by decide +kernel
theorem dX12_image_91 : decode cX12_image 91 = .ok (.if_icmp .ge 25, 3) := by decide +kernel
theorem dX12_image_94 : decode cX12_image 94 = .ok (.aload_n 0, 1) := by decide +kernel
theorem dX12_image_95 : decode cX12_image 95 = .ok (.getfield 29, 3) := by decide +kernel
theorem dX12_image_98 : decode cX12_image 98 = .ok (.iload_n 2, 1) := by decide +kernel
theorem dX12_image_99 : decode cX12_image 99 = .ok (.aload_n 0, 1) := by decide +kernel
theorem dX12_image_100 : decode cX12_image 100 = .ok (.aload_n 0, 1) := by decide +kernel
theorem dX12_image_101 : decode cX12_image 101 = .ok (.getfield 29, 3) := by decide +kernel
theorem dX12_image_104 : decode cX12_image 104 = .ok (.iload_n 2, 1) := by decide +kernel
theorem dX12_image_105 : decode cX12_image 105 = .ok (.iaload, 1) := by decide +kernel
theorem dX12_image_106 : decode cX12_image 106 = .ok (.invokevirtual 439, 3) := by decide +kernel
theorem dX12_image_109 : decode cX12_image 109 = .ok (.iastore, 1) := by decide +kernel
theorem dX12_image_110 : decode cX12_image 110 = .ok (.iinc 2 1, 3) := by decide +kernel
theorem dX12_image_113 : decode cX12_image 113 = .ok (.goto (-26), 3) := by decide +kernel
theorem dX12_image_116 : decode cX12_image 116 = .ok (.iconst 0, 1) := by decide +kernel
theorem dX12_image_117 : decode cX12_image 117 = .ok (.istore_n 2, 1) := by decide +kernel
theorem dX12_image_118 : decode cX12_image 118 = .ok (.iload_n 2, 1) := by decide +kernel
theorem dX12_image_119 : decode cX12_image 119 = .ok (.bipush 7, 2) := by decide +kernel
theorem dX12_image_121 : decode cX12_image 121 = .ok (.if_icmp .ge 25, 3) := by decide +kernel
theorem dX12_image_124 : decode cX12_image 124 = .ok (.aload_n 0, 1) := by decide +kernel
theorem dX12_image_125 : decode cX12_image 125 = .ok (.getfield 32, 3) := by decide +kernel
theorem dX12_image_128 : decode cX12_image 128 = .ok (.iload_n 2, 1) := by decide +kernel
theorem dX12_image_129 : decode cX12_image 129 = .ok (.aload_n 0, 1) := by decide +kernel
theorem dX12_image_130 : decode cX12_image 130 = .ok (.aload_n 0, 1) := by decide +kernel
theorem dX12_image_131 : decode cX12_image 131 = .ok (.getfield 32, 3) := by decide +kernel
theorem dX12_image_134 : decode cX12_image 134 = .ok (.iload_n 2, 1) := by decide +kernel
theorem dX12_image_135 : decode cX12_image 135 = .ok (.iaload, 1) := by decide +kernel
theorem dX12_image_136 : decode cX12_image 136 = .ok (.invokevirtual 439, 3) := by decide +kernel
theorem dX12_image_139 : decode cX12_image 139 = .ok (.iastore, 1) := by decide +kernel
theorem dX12_image_140 : decode cX12_image 140 = .ok (.iinc 2 1, 3) := by decide +kernel
theorem dX12_image_143 : decode cX12_image 143 = .ok (.goto (-25), 3) := by decide +kernel
theorem dX12_image_146 : decode cX12_image 146 = .ok (.iconst 0, 1) := by decide +kernel
theorem dX12_image_147 : decode cX12_image 147 = .ok (.istore_n 2, 1) := by decide +kernel
theorem dX12_image_148 : decode cX12_image 148 = .ok (.iload_n 2, 1) := by decide +kernel
theorem dX12_image_149 : decode cX12_image 149 = .ok (.bipush 6, 2) := by decide +kernel
theorem dX12_image_151 : decode cX12_image 151 = .ok (.if_icmp .ge 105, 3) := by decide +kernel
theorem dX12_image_154 : decode cX12_image 154 = .ok (.aload_n 0, 1) := by decide +kernel
theorem dX12_image_155 : decode cX12_image 155 = .ok (.getfield 35, 3) := by decide +kernel
theorem dX12_image_158 : decode cX12_image 158 = .ok (.iload_n 2, 1) := by decide +kernel
theorem dX12_image_159 : decode cX12_image 159 = .ok (.aload_n 0, 1) := by decide +kernel
theorem dX12_image_160 : decode cX12_image 160 = .ok (.aload_n 0, 1) := by decide +kernel
theorem dX12_image_161 : decode cX12_image 161 = .ok (.getfield 35, 3) := by decide +kernel
theorem dX12_image_164 : decode cX12_image 164 = .ok (.iload_n 2, 1) := by decide +kernel
theorem dX12_image_165 : decode cX12_image 165 = .ok (.iaload, 1) := by decide +kernel
theorem dX12_image_166 : decode cX12_image 166 = .ok (.invokevirtual 439, 3) := by decide +kernel
theorem dX12_image_169 : decode cX12_image 169 = .ok (.iastore, 1) := by decide +kernel
theorem dX12_image_170 : decode cX12_image 170 = .ok (.aload_n 0, 1) := by decide +kernel
theorem dX12_image_171 : decode cX12_image 171 = .ok (.getfield 38, 3) := by decide +kernel
theorem dX12_image_174 : decode cX12_image 174 = .ok (.iload_n 2, 1) := by decide +kernel
theorem dX12_image_175 : decode cX12_image 175 = .ok (.aload_n 0, 1) := by decide +kernel
theorem dX12_image_176 : decode cX12_image 176 = .ok (.aload_n 0, 1) := by decide +kernel
theorem dX12_image_177 : decode cX12_image 177 = .ok (.getfield 38, 3) := by decide +kernel
theorem dX12_image_180 : decode cX12_image 180 = .ok (.iload_n 2, 1) := by decide +kernel
theorem dX12_image_181 : decode cX12_image 181 = .ok (.iaload, 1) := by decide +kernel
theorem dX12_image_182 : decode cX12_image 182 = .ok (.invokevirtual 439, 3) := by decide +kernel
theorem dX12_image_185 : decode cX12_image 185 = .ok (.iastore, 1) := by decide +kernel
theorem dX12_image_186 : decode cX12_image 186 = .ok (.aload_n 0, 1) := by decide +kernel
theorem dX12_image_187 : decode cX12_image 187 = .ok (.getfield 41, 3) := by decide +kernel
theorem dX12_image_190 : decode cX12_image 190 = .ok (.iload_n 2, 1) := by decide +kernel
theorem dX12_image_191 : decode cX12_image 191 = .ok (.aload_n 0, 1) := by decide +kernel
theorem dX12_image_192 : decode cX12_image 192 = .ok (.aload_n 0, 1) := by decide +kernel
theorem dX12_image_193 : decode cX12_image 193 = .ok (.getfield 41, 3) := by decide +kernel
theorem dX12_image_196 : decode cX12_image 196 = .ok (.iload_n 2, 1) := by decide +kernel
theorem dX12_image_197 : decode cX12_image 197 = .ok (.iaload, 1) := by decide +kernel
theorem dX12_image_198 : decode cX12_image 198 = .ok (.invokevirtual 439, 3) := by decide +kernel
theorem dX12_image_201 : decode cX12_image 201 = .ok (.iastore, 1) := by decide +kernel
theorem dX12_image_202 : decode cX12_image 202 = .ok (.aload_n 0, 1) := by decide +kernel
theorem dX12_image_203 : decode cX12_image 203 = .ok (.getfield 44, 3) := by decide +kernel
theorem dX12_image_206 : decode cX12_image 206 = .ok (.iload_n 2, 1) := by decide +kernel
theorem dX12_image_207 : decode cX12_image 207 = .ok (.aload_n 0, 1) := by decide +kernel
theorem dX12_image_208 : decode cX12_image 208 = .ok (.aload_n 0, 1) := by decide +kernel
theorem dX12_image_209 : decode cX12_image 209 = .ok (.getfield 44, 3) := by decide +kernel
theorem dX12_image_212 : decode cX12_image 212 = .ok (.iload_n 2, 1) := by decide +kernel
theorem dX12_image_213 : decode cX12_image 213 = .ok (.iaload, 1) := by decide +kernel
theorem dX12_image_214 : decode cX12_image 214 = .ok (.invokevirtual 439, 3) := by decide +kernel
theorem dX12_image_217 : decode cX12_image 217 = .ok (.iastore, 1) := by decide +kernel
theorem dX12_image_218 : decode cX12_image 218 = .ok (.aload_n 0, 1) := by decide +kernel
theorem dX12_image_219 : decode cX12_image 219 = .ok (.getfield 47, 3) := by decide +kernel
theorem dX12_image_222 : decode cX12_image 222 = .ok (.iload_n 2, 1) := by decide +kernel
theorem dX12_image_223 : decode cX12_image 223 = .ok (.aload_n 0, 1) := by decide +kernel
theorem dX12_image_224 : decode cX12_image 224 = .ok (.aload_n 0, 1) := by decide +kernel
theorem dX12_image_225 : decode cX12_image 225 = .ok (.getfield 47, 3) := by decide +kernel
theorem dX12_image_228 : decode cX12_image 228 = .ok (.iload_n 2, 1) := by decide +kernel
theorem dX12_image_229 : decode cX12_image 229 = .ok (.iaload, 1) := by decide +kernel
theorem dX12_image_230 : decode cX12_image 230 = .ok (.invokevirtual 439, 3) := by decide +kernel
theorem dX12_image_233 : decode cX12_image 233 = .ok (.iastore, 1) := by decide +kernel
theorem dX12_image_234 : decode cX12_image 234 = .ok (.aload_n 0, 1) := by decide +kernel
theorem dX12_image_235 : decode cX12_image 235 = .ok (.getfield 50, 3) := by decide +kernel
theorem dX12_image_238 : decode cX12_image 238 = .ok (.iload_n 2, 1) := by decide +kernel
theorem dX12_image_239 : decode cX12_image 239 = .ok (.aload_n 0, 1) := by decide +kernel
theorem dX12_image_240 : decode cX12_image 240 = .ok (.aload_n 0, 1) := by decide +kernel
theorem dX12_image_241 : decode cX12_image 241 = .ok (.getfield 50, 3) := by decide +kernel
theorem dX12_image_244 : decode cX12_image 244 = .ok (.iload_n 2, 1) := by decide +kernel
theorem dX12_image_245 : decode cX12_image 245 = .ok (.iaload, 1) := by decide +kernel
theorem dX12_image_246 : decode cX12_image 246 = .ok (.invokevirtual 439, 3) := by decide +kernel
theorem dX12_image_249 : decode cX12_image 249 = .ok (.iastore, 1) := by decide +kernel
theorem dX12_image_250 : decode cX12_image 250 = .ok (.iinc 2 1, 3) := by decide +kernel
theorem dX12_image_253 : decode cX12_image 253 = .ok (.goto (-105), 3) := by decide +kernel
theorem dX12_image_256 : decode cX12_image 256 = .ok (.iconst 0, 1) := by decide +kernel
theorem dX12_image_257 : decode cX12_image 257 = .ok (.istore_n 2, 1) := by decide +kernel
theorem dX12_image_258 : decode cX12_image 258 = .ok (.iload_n 2, 1) := by decide +kernel
theorem dX12_image_259 : decode cX12_image 259 = .ok (.bipush 12, 2) := by decide +kernel
theorem dX12_image_261 : decode cX12_image 261 = .ok (.if_icmp .ge 41, 3) := by decide +kernel
theorem dX12_image_264 : decode cX12_image 264 = .ok (.aload_n 0, 1) := by decide +kernel
theorem dX12_image_265 : decode cX12_image 265 = .ok (.getfield 53, 3) := by decide +kernel
theorem dX12_image_268 : decode cX12_image 268 = .ok (.iload_n 2, 1) := by decide +kernel
theorem dX12_image_269 : decode cX12_image 269 = .ok (.aload_n 0, 1) := by decide +kernel
theorem dX12_image_270 : decode cX12_image 270 = .ok (.aload_n 0, 1) := by decide +kernel
theorem dX12_image_271 : decode cX12_image 271 = .ok (.getfield 53, 3) := by decide +kernel
theorem dX12_image_274 : decode cX12_image 274 = .ok (.iload_n 2, 1) := by decide +kernel
theorem dX12_image_275 : decode cX12_image 275 = .ok (.iaload, 1) := by decide +kernel
theorem dX12_image_276 : decode cX12_image 276 = .ok (.invokevirtual 439, 3) := by decide +kernel
theorem dX12_image_279 : decode cX12_image 279 = .ok (.iastore, 1) := by decide +kernel
theorem dX12_image_280 : decode cX12_image 280 = .ok (.aload_n 0, 1) := by decide +kernel
theorem dX12_image_281 : decode cX12_image 281 = .ok (.getfield 56, 3) := by decide +kernel
theorem dX12_image_284 : decode cX12_image 284 = .ok (.iload_n 2, 1) := by decide +kernel
theorem dX12_image_285 : decode cX12_image 285 = .ok (.aload_n 0, 1) := by decide +kernel
theorem dX12_image_286 : decode cX12_image 286 = .ok (.aload_n 0, 1) := by decide +kernel
theorem dX12_image_287 : decode cX12_image 287 = .ok (.getfield 56, 3) := by decide +kernel
theorem dX12_image_290 : decode cX12_image 290 = .ok (.iload_n 2, 1) := by decide +kernel
theorem dX12_image_291 : decode cX12_image 291 = .ok (.iaload, 1) := by decide +kernel
theorem dX12_image_292 : decode cX12_image 292 = .ok (.invokevirtual 439, 3) := by decide +kernel
theorem dX12_image_295 : decode cX12_image 295 = .ok (.iastore, 1) := by decide +kernel
theorem dX12_image_296 : decode cX12_image 296 = .ok (.iinc 2 1, 3) := by decide +kernel
theorem dX12_image_299 : decode cX12_image 299 = .ok (.goto (-41), 3) := by decide +kernel
theorem dX12_image_302 : decode cX12_image 302 = .ok (.aload_n 0, 1) := by decide +kernel
theorem dX12_image_303 : decode cX12_image 303 = .ok (.invokevirtual 445, 3) := by decide +kernel
theorem dX12_image_306 : decode cX12_image 306 = .ok (.aload_n 0, 1) := by decide +kernel
theorem dX12_image_307 : decode cX12_image 307 = .ok (.invokevirtual 448, 3) := by decide +kernel
theorem dX12_image_310 : decode cX12_image 310 = .ok (.iconst 1, 1) := by decide +kernel
theorem dX12_image_311 : decode cX12_image 311 = .ok (.ireturn, 1) := by decide +kernel
theorem dX12_look_0 : decode cX12_look 0 = .ok (.aload_n 0, 1) := by decide +kernel
theorem dX12_look_1 : decode cX12_look 1 = .ok (.iconst 0, 1) := by decide +kernel
theorem dX12_look_2 : decode cX12_look 2 = .ok (.putfield 146, 3) := by decide +kernel
theorem dX12_look_5 : decode cX12_look 5 = .ok (.aload_n 0, 1) := by decide +kernel
theorem dX12_look_6 : decode cX12_look 6 = .ok (.invokevirtual 168, 3) := by decide +kernel
theorem dX12_look_9 : decode cX12_look 9 = .ok (.iload_n 1, 1) := by decide +kernel
theorem dX12_look_10 : decode cX12_look 10 = .ok (.ifCond .ne 8, 3) := by decide +kernel
theorem dX12_look_13 : decode cX12_look 13 = .ok (.aload_n 0, 1) := by decide +kernel
theorem dX12_look_14 : decode cX12_look 14 = .ok (.getfield 25, 3) := by decide +kernel
theorem dX12_look_17 : decode cX12_look 17 = .ok (.ireturn, 1) := by decide +kernel
theorem dX12_look_18 : decode cX12_look 18 = .ok (.iload_n 1, 1) := by decide +kernel
theorem dX12_look_19 : decode cX12_look 19 = .ok (.iconst 1, 1) := by decide +kernel
theorem dX12_look_20 : decode cX12_look 20 = .ok (.if_icmp .ne 8, 3) := by decide +kernel
theorem dX12_look_23 : decode cX12_look 23 = .ok (.aload_n 0, 1) := by decide +kernel
theorem dX12_look_24 : decode cX12_look 24 = .ok (.getfield 154, 3) := by decide +kernel
theorem dX12_look_27 : decode cX12_look 27 = .ok (.ireturn, 1) := by decide +kernel
theorem dX12_look_28 : decode cX12_look 28 = .ok (.iload_n 1, 1) := by decide +kernel
theorem dX12_look_29 : decode cX12_look 29 = .ok (.iconst 2, 1) := by decide +kernel
theorem dX12_look_30 : decode cX12_look 30 = .ok (.if_icmp .ne 8, 3) := by decide +kernel
theorem dX12_look_33 : decode cX12_look 33 = .ok (.aload_n 0, 1) := by decide +kernel
theorem dX12_look_34 : decode cX12_look 34 = .ok (.getfield 171, 3) := by decide +kernel
theorem dX12_look_37 : decode cX12_look 37 = .ok (.ireturn, 1) := by decide +kernel
theorem dX12_look_38 : decode cX12_look 38 = .ok (.iload_n 1, 1) := by decide +kernel
theorem dX12_look_39 : decode cX12_look 39 = .ok (.iconst 3, 1) := by decide +kernel
theorem dX12_look_40 : decode cX12_look 40 = .ok (.if_icmp .ne 8, 3) := by decide +kernel
theorem dX12_look_43 : decode cX12_look 43 = .ok (.aload_n 0, 1) := by decide +kernel
theorem dX12_look_44 : decode cX12_look 44 = .ok (.getfield 174, 3) := by decide +kernel
theorem dX12_look_47 : decode cX12_look 47 = .ok (.ireturn, 1) := by decide +kernel
theorem dX12_look_48 : decode cX12_look 48 = .ok (.iload_n 1, 1) := by decide +kernel
theorem dX12_look_49 : decode cX12_look 49 = .ok (.iconst 4, 1) := by decide +kernel
theorem dX12_look_50 : decode cX12_look 50 = .ok (.if_icmp .ne 8, 3) := by decide +kernel
theorem dX12_look_53 : decode cX12_look 53 = .ok (.aload_n 0, 1) := by decide +kernel
theorem dX12_look_54 : decode cX12_look 54 = .ok (.getfield 180, 3) := by decide +kernel
theorem dX12_look_57 : decode cX12_look 57 = .ok (.ireturn, 1) := by decide +kernel
theorem dX12_look_58 : decode cX12_look 58 = .ok (.iload_n 1, 1) := by decide +kernel
theorem dX12_look_59 : decode cX12_look 59 = .ok (.iconst 5, 1) := by decide +kernel
theorem dX12_look_60 : decode cX12_look 60 = .ok (.if_icmp .ne 8, 3) := by decide +kernel
theorem dX12_look_63 : decode cX12_look 63 = .ok (.aload_n 0, 1) := by decide +kernel
theorem dX12_look_64 : decode cX12_look 64 = .ok (.getfield 177, 3) := by decide +kernel
theorem dX12_look_67 : decode cX12_look 67 = .ok (.ireturn, 1) := by decide +kernel
theorem dX12_look_68 : decode cX12_look 68 = .ok (.iload_n 1, 1) := by decide +kernel
theorem dX12_look_69 : decode cX12_look 69 = .ok (.bipush 6, 2) := by decide +kernel
theorem dX12_look_71 : decode cX12_look 71 = .ok (.if_icmp .ne 8, 3) := by decide +kernel
theorem dX12_look_74 : decode cX12_look 74 = .ok (.aload_n 0, 1) := by decide +kernel
theorem dX12_look_75 : decode cX12_look 75 = .ok (.getfield 149, 3) := by decide +kernel
theorem dX12_look_78 : decode cX12_look 78 = .ok (.ireturn, 1) := by decide +kernel
theorem dX12_look_79 : decode cX12_look 79 = .ok (.aload_n 0, 1) := by decide +kernel
theorem dX12_look_80 : decode cX12_look 80 = .ok (.iload_n 1, 1) := by decide +kernel
theorem dX12_look_81 : decode cX12_look 81 = .ok (.bipush 10, 2) := by decide +kernel
theorem dX12_look_83 : decode cX12_look 83 = .ok (.bipush 9, 2) := by decide +kernel
theorem dX12_look_85 : decode cX12_look 85 = .ok (.aload_n 0, 1) := by decide +kernel
theorem dX12_look_86 : decode cX12_look 86 = .ok (.getfield 25, 3) := by decide +kernel
theorem dX12_look_89 : decode cX12_look 89 = .ok (.iadd, 1) := by decide +kernel
theorem dX12_look_90 : decode cX12_look 90 = .ok (.invokevirtual 160, 3) := by decide +kernel
theorem dX12_look_93 : decode cX12_look 93 = .ok (.ifCond .eq 13, 3) := by decide +kernel
theorem dX12_look_96 : decode cX12_look 96 = .ok (.aload_n 0, 1) := by decide +kernel
theorem dX12_look_97 : decode cX12_look 97 = .ok (.getfield 29, 3) := by decide +kernel
theorem dX12_look_100 : decode cX12_look 100 = .ok (.iload_n 1, 1) := by decide +kernel
theorem dX12_look_101 : decode cX12_look 101 = .ok (.bipush 10, 2) := by decide +kernel
theorem dX12_look_103 : decode cX12_look 103 = .ok (.isub, 1) := by decide +kernel
theorem dX12_look_104 : decode cX12_look 104 = .ok (.iaload, 1) := by decide +kernel
theorem dX12_look_105 : decode cX12_look 105 = .ok (.ireturn, 1) := by decide +kernel
theorem dX12_look_106 : decode cX12_look 106 = .ok (.aload_n 0, 1) := by decide +kernel
theorem dX12_look_107 : decode cX12_look 107 = .ok (.iload_n 1, 1) := by decide +kernel
theorem dX12_look_108 : decode cX12_look 108 = .ok (.bipush 20, 2) := by decide +kernel
theorem dX12_look_110 : decode cX12_look 110 = .ok (.bipush 26, 2) := by decide +kernel
theorem dX12_look_112 : decode cX12_look 112 = .ok (.invokevirtual 160, 3) := by decide +kernel
theorem dX12_look_115 : decode cX12_look 115 = .ok (.ifCond .eq 15, 3) := by decide +kernel
theorem dX12_look_118 : decode cX12_look 118 = .ok (.aload_n 0, 1) := by decide +kernel
theorem dX12_look_119 : decode cX12_look 119 = .ok (.getfield 32, 3) := by decide +kernel
theorem dX12_look_122 : decode cX12_look 122 = .ok (.iload_n 1, 1) := by decide +kernel
theorem dX12_look_123 : decode cX12_look 123 = .ok (.bipush 20, 2) := by decide +kernel
theorem dX12_look_125 : decode cX12_look 125 = .ok (.isub, 1) := by decide +kernel
theorem dX12_look_126 : decode cX12_look 126 = .ok (.iaload, 1) := by decide +kernel
theorem dX12_look_127 : decode cX12_look 127 = .ok (.goto 4, 3) := by decide +kernel
theorem dX12_look_130 : decode cX12_look 130 = .ok (.iconst (-1), 1) := by decide +kernel
theorem dX12_look_131 : decode cX12_look 131 = .ok (.ireturn, 1) := by decide +kernel
theorem dJ11_isValidCodePoint_9a6ad_0 : decode cJ11_isValidCodePoint_9a6ad 0 = .ok (.iload_n 0, 1) := by decide +kernel
theorem dJ11_isValidCodePoint_9a6ad_1 : decode cJ11_isValidCodePoint_9a6ad 1 = .ok (.bipush 16, 2) := by decide +kernel
theorem dJ11_isValidCodePoint_9a6ad_3 : decode cJ11_isValidCodePoint_9a6ad 3 = .ok (.iushr, 1) := by decide +kernel
theorem dJ11_isValidCodePoint_9a6ad_4 : decode cJ11_isValidCodePoint_9a6ad 4 = .ok (.istore_n 1, 1) := by decide +kernel
theorem dJ11_isValidCodePoint_9a6ad_5 : decode cJ11_isValidCodePoint_9a6ad 5 = .ok (.iload_n 1, 1) := by decide +kernel
theorem dJ11_isValidCodePoint_9a6ad_6 : decode cJ11_isValidCodePoint_9a6ad 6 = .ok (.bipush 17, 2) := by decide +kernel
theorem dJ11_isValidCodePoint_9a6ad_8 : decode cJ11_isValidCodePoint_9a6ad 8 = .ok (.if_icmp .ge 7, 3) := by decide +kernel
theorem dJ11_isValidCodePoint_9a6ad_11 : decode cJ11_isValidCodePoint_9a6ad 11 = .ok (.iconst 1, 1) := by decide +kernel
theorem dJ11_isValidCodePoint_9a6ad_12 : decode cJ11_isValidCodePoint_9a6ad 12 = .ok (.goto 4, 3) := by decide +kernel
theorem dJ11_isValidCodePoint_9a6ad_15 : decode cJ11_isValidCodePoint_9a6ad 15 = .ok (.iconst 0, 1) := by decide +kernel
theorem dJ11_isValidCodePoint_9a6ad_16 : decode cJ11_isValidCodePoint_9a6ad 16 = .ok (.ireturn, 1) := by decide +kernel
theorem dJ11_highSurrogate_5068e_0 : decode cJ11_highSurrogate_5068e 0 = .ok (.iload_n 0, 1) := by decide +kernel
theorem dJ11_highSurrogate_5068e_1 : decode cJ11_highSurrogate_5068e 1 = .ok (.bipush 10, 2) := by decide +kernel
theorem dJ11_highSurrogate_5068e_3 : decode cJ11_highSurrogate_5068e 3 = .ok (.iushr, 1) := by decide +kernel
theorem dJ11_highSurrogate_5068e_4 : decode cJ11_highSurrogate_5068e 4 = .ok (.ldc 110, 2) := by decide +kernel
theorem dJ11_highSurrogate_5068e_6 : decode cJ11_highSurrogate_5068e 6 = .ok (.iadd, 1) := by decide +kernel
theorem dJ11_highSurrogate_5068e_7 : decode cJ11_highSurrogate_5068e 7 = .ok (.i2c, 1) := by decide +kernel
theorem dJ11_highSurrogate_5068e_8 : decode cJ11_highSurrogate_5068e 8 = .ok (.ireturn, 1) := by decide +kernel
theorem dJ11_lowSurrogate_5068e_0 : decode cJ11_lowSurrogate_5068e 0 = .ok (.iload_n 0, 1) := by decide +kernel
theorem dJ11_lowSurrogate_5068e_1 : decode cJ11_lowSurrogate_5068e 1 = .ok (.sipush 1023, 3) := by decide +kernel
theorem dJ11_lowSurrogate_5068e_4 : decode cJ11_lowSurrogate_5068e 4 = .ok (.iand, 1) := by decide +kernel
theorem dJ11_lowSurrogate_5068e_5 : decode cJ11_lowSurrogate_5068e 5 = .ok (.ldc 76, 2) := by decide +kernel
theorem dJ11_lowSurrogate_5068e_7 : decode cJ11_lowSurrogate_5068e 7 = .ok (.iadd, 1) := by decide +kernel
theorem dJ11_lowSurrogate_5068e_8 : decode cJ11_lowSurrogate_5068e 8 = .ok (.i2c, 1) := by decide +kernel
theorem dJ11_lowSurrogate_5068e_9 : decode cJ11_lowSurrogate_5068e 9 = .ok (.ireturn, 1) := by decide +kernel
theorem dJ6_bitCount_0f7a4_0 : decode cJ6_bitCount_0f7a4 0 = .ok (.iload_n 0, 1) := by decide +kernel
theorem dJ6_bitCount_0f7a4_1 : decode cJ6_bitCount_0f7a4 1 = .ok (.iload_n 0, 1) := by decide +kernel
theorem dJ6_bitCount_0f7a4_2 : decode cJ6_bitCount_0f7a4 2 = .ok (.iconst 1, 1) := by decide +kernel
theorem dJ6_bitCount_0f7a4_3 : decode cJ6_bitCount_0f7a4 3 = .ok (.iushr, 1) := by decide +kernel
theorem dJ6_bitCount_0f7a4_4 : decode cJ6_bitCount_0f7a4 4 = .ok (.ldc_w 265, 3) := by decide +kernel
theorem dJ6_bitCount_0f7a4_7 : decode cJ6_bitCount_0f7a4 7 = .ok (.iand, 1) := by decide +kernel
theorem dJ6_bitCount_0f7a4_8 : decode cJ6_bitCount_0f7a4 8 = .ok (.isub, 1) := by decide +kernel
theorem dJ6_bitCount_0f7a4_9 : decode cJ6_bitCount_0f7a4 9 = .ok (.istore_n 0, 1) := by decide +kernel
theorem dJ6_bitCount_0f7a4_10 : decode cJ6_bitCount_0f7a4 10 = .ok (.iload_n 0, 1) := by decide +kernel
theorem dJ6_bitCount_0f7a4_11 : decode cJ6_bitCount_0f7a4 11 = .ok (.ldc_w 266, 3) := by decide +kernel
theorem dJ6_bitCount_0f7a4_14 : decode cJ6_bitCount_0f7a4 14 = .ok (.iand, 1) := by decide +kernel
theorem dJ6_bitCount_0f7a4_15 : decode cJ6_bitCount_0f7a4 15 = .ok (.iload_n 0, 1) := by decide +kernel
theorem dJ6_bitCount_0f7a4_16 : decode cJ6_bitCount_0f7a4 16 = .ok (.iconst 2, 1) := by decide +kernel
theorem dJ6_bitCount_0f7a4_17 : decode cJ6_bitCount_0f7a4 17 = .ok (.iushr, 1) := by decide +kernel
theorem dJ6_bitCount_0f7a4_18 : decode cJ6_bitCount_0f7a4 18 = .ok (.ldc_w 266, 3) := by decide +kernel
theorem dJ6_bitCount_0f7a4_21 : decode cJ6_bitCount_0f7a4 21 = .ok (.iand, 1) := by decide +kernel
theorem dJ6_bitCount_0f7a4_22 : decode cJ6_bitCount_0f7a4 22 = .ok (.iadd, 1) := by decide +kernel
theorem dJ6_bitCount_0f7a4_23 : decode cJ6_bitCount_0f7a4 23 = .ok (.istore_n 0, 1) := by decide +kernel
theorem dJ6_bitCount_0f7a4_24 : decode cJ6_bitCount_0f7a4 24 = .ok (.iload_n 0, 1) := by decide +kernel
theorem dJ6_bitCount_0f7a4_25 : decode cJ6_bitCount_0f7a4 25 = .ok (.iload_n 0, 1) := by decide +kernel
theorem dJ6_bitCount_0f7a4_26 : decode cJ6_bitCount_0f7a4 26 = .ok (.iconst 4, 1) := by decide +kernel
theorem dJ6_bitCount_0f7a4_27 : decode cJ6_bitCount_0f7a4 27 = .ok (.iushr, 1) := by decide +kernel
theorem dJ6_bitCount_0f7a4_28 : decode cJ6_bitCount_0f7a4 28 = .ok (.iadd, 1) := by decide +kernel
theorem dJ6_bitCount_0f7a4_29 : decode cJ6_bitCount_0f7a4 29 = .ok (.ldc_w 267, 3) := by decide +kernel
theorem dJ6_bitCount_0f7a4_32 : decode cJ6_bitCount_0f7a4 32 = .ok (.iand, 1) := by decide +kernel
theorem dJ6_bitCount_0f7a4_33 : decode cJ6_bitCount_0f7a4 33 = .ok (.istore_n 0, 1) := by decide +kernel
theorem dJ6_bitCount_0f7a4_34 : decode cJ6_bitCount_0f7a4 34 = .ok (.iload_n 0, 1) := by decide +kernel
theorem dJ6_bitCount_0f7a4_35 : decode cJ6_bitCount_0f7a4 35 = .ok (.iload_n 0, 1) := by decide +kernel
theorem dJ6_bitCount_0f7a4_36 : decode cJ6_bitCount_0f7a4 36 = .ok (.bipush 8, 2) := by decide +kernel
theorem dJ6_bitCount_0f7a4_38 : decode cJ6_bitCount_0f7a4 38 = .ok (.iushr, 1) := by decide +kernel
theorem dJ6_bitCount_0f7a4_39 : decode cJ6_bitCount_0f7a4 39 = .ok (.iadd, 1) := by decide +kernel
theorem dJ6_bitCount_0f7a4_40 : decode cJ6_bitCount_0f7a4 40 = .ok (.istore_n 0, 1) := by decide +kernel
theorem dJ6_bitCount_0f7a4_41 : decode cJ6_bitCount_0f7a4 41 = .ok (.iload_n 0, 1) := by decide +kernel
theorem dJ6_bitCount_0f7a4_42 : decode cJ6_bitCount_0f7a4 42 = .ok (.iload_n 0, 1) := by decide +kernel
theorem dJ6_bitCount_0f7a4_43 : decode cJ6_bitCount_0f7a4 43 = .ok (.bipush 16, 2) := by decide +kernel
theorem dJ6_bitCount_0f7a4_45 : decode cJ6_bitCount_0f7a4 45 = .ok (.iushr, 1) := by decide +kernel
theorem dJ6_bitCount_0f7a4_46 : decode cJ6_bitCount_0f7a4 46 = .ok (.iadd, 1) := by decide +kernel
theorem dJ6_bitCount_0f7a4_47 : decode cJ6_bitCount_0f7a4 47 = .ok (.istore_n 0, 1) := by decide +kernel
theorem dJ6_bitCount_0f7a4_48 : decode cJ6_bitCount_0f7a4 48 = .ok (.iload_n 0, 1) := by decide +kernel
theorem dJ6_bitCount_0f7a4_49 : decode cJ6_bitCount_0f7a4 49 = .ok (.bipush 63, 2) := by decide +kernel
theorem dJ6_bitCount_0f7a4_51 : decode cJ6_bitCount_0f7a4 51 = .ok (.iand, 1) := by decide +kernel
theorem dJ6_bitCount_0f7a4_52 : decode cJ6_bitCount_0f7a4 52 = .ok (.ireturn, 1) := by decide +kernel
theorem dJ9_abs_0f7a4_0 : decode cJ9_abs_0f7a4 0 = .ok (.iload_n 0, 1) := by decide +kernel
theorem dJ9_abs_0f7a4_1 : decode cJ9_abs_0f7a4 1 = .ok (.ifCond .ge 8, 3) := by decide +kernel
theorem dJ9_abs_0f7a4_4 : decode cJ9_abs_0f7a4 4 = .ok (.iload_n 0, 1) := by decide +kernel
theorem dJ9_abs_0f7a4_5 : decode cJ9_abs_0f7a4 5 = .ok (.ineg, 1) := by decide +kernel
theorem dJ9_abs_0f7a4_6 : decode cJ9_abs_0f7a4 6 = .ok (.goto 4, 3) := by decide +kernel
theorem dJ9_abs_0f7a4_9 : decode cJ9_abs_0f7a4 9 = .ok (.iload_n 0, 1) := by decide +kernel
theorem dJ9_abs_0f7a4_10 : decode cJ9_abs_0f7a4 10 = .ok (.ireturn, 1) := by decide +kernel
theorem dJ9_max_7cf53_0 : decode cJ9_max_7cf53 0 = .ok (.iload_n 0, 1) := by decide +kernel
theorem dJ9_max_7cf53_1 : decode cJ9_max_7cf53 1 = .ok (.iload_n 1, 1) := by decide +kernel
theorem dJ9_max_7cf53_2 : decode cJ9_max_7cf53 2 = .ok (.if_icmp .lt 7, 3) := by decide +kernel
theorem dJ9_max_7cf53_5 : decode cJ9_max_7cf53 5 = .ok (.iload_n 0, 1) := by decide +kernel
theorem dJ9_max_7cf53_6 : decode cJ9_max_7cf53 6 = .ok (.goto 4, 3) := by decide +kernel
theorem dJ9_max_7cf53_9 : decode cJ9_max_7cf53 9 = .ok (.iload_n 1, 1) := by decide +kernel
theorem dJ9_max_7cf53_10 : decode cJ9_max_7cf53 10 = .ok (.ireturn, 1) := by decide +kernel
theorem dJ9_min_7cf53_0 : decode cJ9_min_7cf53 0 = .ok (.iload_n 0, 1) := by decide +kernel
theorem dJ9_min_7cf53_1 : decode cJ9_min_7cf53 1 = .ok (.iload_n 1, 1) := by decide +kernel
theorem dJ9_min_7cf53_2 : decode cJ9_min_7cf53 2 = .ok (.if_icmp .gt 7, 3) := by decide +kernel
theorem dJ9_min_7cf53_5 : decode cJ9_min_7cf53 5 = .ok (.iload_n 0, 1) := by decide +kernel
theorem dJ9_min_7cf53_6 : decode cJ9_min_7cf53 6 = .ok (.goto 4, 3) := by decide +kernel
theorem dJ9_min_7cf53_9 : decode cJ9_min_7cf53 9 = .ok (.iload_n 1, 1) := by decide +kernel
theorem dJ9_min_7cf53_10 : decode cJ9_min_7cf53 10 = .ok (.ireturn, 1) := by decide +kernel
theorem dJ0_length_8abf5_0 : decode cJ0_length_8abf5 0 = .ok (.aload_n 0, 1) := by decide +kernel
theorem dJ0_length_8abf5_1 : decode cJ0_length_8abf5 1 = .ok (.getfield 9, 3) := by decide +kernel
theorem dJ0_length_8abf5_4 : decode cJ0_length_8abf5 4 = .ok (.arraylength, 1) := by decide +kernel
theorem dJ0_length_8abf5_5 : decode cJ0_length_8abf5 5 = .ok (.aload_n 0, 1) := by decide +kernel
theorem dJ0_length_8abf5_6 : decode cJ0_length_8abf5 6 = .ok (.invokevirtual 335, 3) := by decide +kernel
theorem dJ0_length_8abf5_9 : decode cJ0_length_8abf5 9 = .ok (.ishr, 1) := by decide +kernel
theorem dJ0_length_8abf5_10 : decode cJ0_length_8abf5 10 = .ok (.ireturn, 1) := by decide +kernel
theorem dJ0_charAt_5068e_0 : decode cJ0_charAt_5068e 0 = .ok (.aload_n 0, 1) := by decide +kernel
theorem dJ0_charAt_5068e_1 : decode cJ0_charAt_5068e 1 = .ok (.invokevirtual 492, 3) := by decide +kernel
theorem dJ0_charAt_5068e_4 : decode cJ0_charAt_5068e 4 = .ok (.ifCond .eq 12, 3) := by decide +kernel
theorem dJ0_charAt_5068e_7 : decode cJ0_charAt_5068e 7 = .ok (.aload_n 0, 1) := by decide +kernel
theorem dJ0_charAt_5068e_8 : decode cJ0_charAt_5068e 8 = .ok (.getfield 9, 3) := by decide +kernel
theorem dJ0_charAt_5068e_11 : decode cJ0_charAt_5068e 11 = .ok (.iload_n 1, 1) := by decide +kernel
theorem dJ0_charAt_5068e_12 : decode cJ0_charAt_5068e 12 = .ok (.invokestatic 495, 3) := by decide +kernel
theorem dJ0_charAt_5068e_15 : decode cJ0_charAt_5068e 15 = .ok (.ireturn, 1) := by decide +kernel
theorem dJ0_charAt_5068e_16 : decode cJ0_charAt_5068e 16 = .ok (.aload_n 0, 1) := by decide +kernel
theorem dJ0_charAt_5068e_17 : decode cJ0_charAt_5068e 17 = .ok (.getfield 9, 3) := by decide +kernel
theorem dJ0_charAt_5068e_20 : decode cJ0_charAt_5068e 20 = .ok (.iload_n 1, 1) := by decide +kernel
theorem dJ0_charAt_5068e_21 : decode cJ0_charAt_5068e 21 = .ok (.invokestatic 498, 3) := by decide +kernel
theorem dJ0_charAt_5068e_24 : decode cJ0_charAt_5068e 24 = .ok (.ireturn, 1) := by decide +kernel
theorem dJ0_indexOf_0f7a4_0 : decode cJ0_indexOf_0f7a4 0 = .ok (.aload_n 0, 1) := by decide +kernel
theorem dJ0_indexOf_0f7a4_1 : decode cJ0_indexOf_0f7a4 1 = .ok (.iload_n 1, 1) := by decide +kernel
theorem dJ0_indexOf_0f7a4_2 : decode cJ0_indexOf_0f7a4 2 = .ok (.iconst 0, 1) := by decide +kernel
theorem dJ0_indexOf_0f7a4_3 : decode cJ0_indexOf_0f7a4 3 = .ok (.invokevirtual 633, 3) := by decide +kernel
theorem dJ0_indexOf_0f7a4_6 : decode cJ0_indexOf_0f7a4 6 = .ok (.ireturn, 1) := by decide +kernel
theorem dJ0_indexOf_7cf53_0 : decode cJ0_indexOf_7cf53 0 = .ok (.aload_n 0, 1) := by decide +kernel
theorem dJ0_indexOf_7cf53_1 : decode cJ0_indexOf_7cf53 1 = .ok (.invokevirtual 492, 3) := by decide +kernel
theorem dJ0_indexOf_7cf53_4 : decode cJ0_indexOf_7cf53 4 = .ok (.ifCond .eq 19, 3) := by decide +kernel
theorem dJ0_indexOf_7cf53_7 : decode cJ0_indexOf_7cf53 7 = .ok (.aload_n 0, 1) := by decide +kernel
theorem dJ0_indexOf_7cf53_8 : decode cJ0_indexOf_7cf53 8 = .ok (.getfield 9, 3) := by decide +kernel
theorem dJ0_indexOf_7cf53_11 : decode cJ0_indexOf_7cf53 11 = .ok (.iload_n 1, 1) := by decide +kernel
theorem dJ0_indexOf_7cf53_12 : decode cJ0_indexOf_7cf53 12 = .ok (.iload_n 2, 1) := by decide +kernel
theorem dJ0_indexOf_7cf53_13 : decode cJ0_indexOf_7cf53 13 = .ok (.aload_n 0, 1) := by decide +kernel
theorem dJ0_indexOf_7cf53_14 : decode cJ0_indexOf_7cf53 14 = .ok (.invokevirtual 505, 3) := by decide +kernel
theorem dJ0_indexOf_7cf53_17 : decode cJ0_indexOf_7cf53 17 = .ok (.invokestatic 637, 3) := by decide +kernel
theorem dJ0_indexOf_7cf53_20 : decode cJ0_indexOf_7cf53 20 = .ok (.goto 16, 3) := by decide +kernel
theorem dJ0_indexOf_7cf53_23 : decode cJ0_indexOf_7cf53 23 = .ok (.aload_n 0, 1) := by decide +kernel
theorem dJ0_indexOf_7cf53_24 : decode cJ0_indexOf_7cf53 24 = .ok (.getfield 9, 3) := by decide +kernel
theorem dJ0_indexOf_7cf53_27 : decode cJ0_indexOf_7cf53 27 = .ok (.iload_n 1, 1) := by decide +kernel
theorem dJ0_indexOf_7cf53_28 : decode cJ0_indexOf_7cf53 28 = .ok (.iload_n 2, 1) := by decide +kernel
theorem dJ0_indexOf_7cf53_29 : decode cJ0_indexOf_7cf53 29 = .ok (.aload_n 0, 1) := by decide +kernel
theorem dJ0_indexOf_7cf53_30 : decode cJ0_indexOf_7cf53 30 = .ok (.invokevirtual 505, 3) := by decide +kernel
theorem dJ0_indexOf_7cf53_33 : decode cJ0_indexOf_7cf53 33 = .ok (.invokestatic 640, 3) := by decide +kernel
theorem dJ0_indexOf_7cf53_36 : decode cJ0_indexOf_7cf53 36 = .ok (.ireturn, 1) := by decide +kernel
theorem dJ0_coder_7d493_0 : decode cJ0_coder_7d493 0 = .ok (.getstatic 38, 3) := by decide +kernel
theorem dJ0_coder_7d493_3 : decode cJ0_coder_7d493 3 = .ok (.ifCond .eq 10, 3) := by decide +kernel
theorem dJ0_coder_7d493_6 : decode cJ0_coder_7d493 6 = .ok (.aload_n 0, 1) := by decide +kernel
theorem dJ0_coder_7d493_7 : decode cJ0_coder_7d493 7 = .ok (.getfield 15, 3) := by decide +kernel
theorem dJ0_coder_7d493_10 : decode cJ0_coder_7d493 10 = .ok (.goto 4, 3) := by decide +kernel
theorem dJ0_coder_7d493_13 : decode cJ0_coder_7d493 13 = .ok (.iconst 1, 1) := by decide +kernel
theorem dJ0_coder_7d493_14 : decode cJ0_coder_7d493 14 = .ok (.ireturn, 1) := by decide +kernel
theorem dJ0_isLatin1_aae02_0 : decode cJ0_isLatin1_aae02 0 = .ok (.getstatic 38, 3) := by decide +kernel
theorem dJ0_isLatin1_aae02_3 : decode cJ0_isLatin1_aae02 3 = .ok (.ifCond .eq 14, 3) := by decide +kernel
theorem dJ0_isLatin1_aae02_6 : decode cJ0_isLatin1_aae02 6 = .ok (.aload_n 0, 1) := by decide +kernel
theorem dJ0_isLatin1_aae02_7 : decode cJ0_isLatin1_aae02 7 = .ok (.getfield 15, 3) := by decide +kernel
theorem dJ0_isLatin1_aae02_10 : decode cJ0_isLatin1_aae02 10 = .ok (.ifCond .ne 7, 3) := by decide +kernel
theorem dJ0_isLatin1_aae02_13 : decode cJ0_isLatin1_aae02 13 = .ok (.iconst 1, 1) := by decide +kernel
theorem dJ0_isLatin1_aae02_14 : decode cJ0_isLatin1_aae02 14 = .ok (.goto 4, 3) := by decide +kernel
theorem dJ0_isLatin1_aae02_17 : decode cJ0_isLatin1_aae02 17 = .ok (.iconst 0, 1) := by decide +kernel
theorem dJ0_isLatin1_aae02_18 : decode cJ0_isLatin1_aae02 18 = .ok (.ireturn, 1) := by decide +kernel
theorem dJ0_checkIndex_df160_0 : decode cJ0_checkIndex_df160 0 = .ok (.iload_n 0, 1) := by decide +kernel
theorem dJ0_checkIndex_df160_1 : decode cJ0_checkIndex_df160 1 = .ok (.iload_n 1, 1) := by decide +kernel
theorem dJ0_checkIndex_df160_2 : decode cJ0_checkIndex_df160 2 = .ok (.getstatic 1053, 3) := by decide +kernel
theorem dJ0_checkIndex_df160_5 : decode cJ0_checkIndex_df160 5 = .ok (.invokestatic 1059, 3) := by decide +kernel
theorem dJ0_checkIndex_df160_8 : decode cJ0_checkIndex_df160 8 = .ok (.pop, 1) := by decide +kernel
theorem dJ0_checkIndex_df160_9 : decode cJ0_checkIndex_df160 9 = .ok (.return_, 1) := by decide +kernel
theorem dJ0_checkBoundsBeginEnd_23922_0 : decode cJ0_checkBoundsBeginEnd_23922 0 = .ok (.iload_n 0, 1) := by decide +kernel
theorem dJ0_checkBoundsBeginEnd_23922_1 : decode cJ0_checkBoundsBeginEnd_23922 1 = .ok (.iload_n 1, 1) := by decide +kernel
theorem dJ0_checkBoundsBeginEnd_23922_2 : decode cJ0_checkBoundsBeginEnd_23922 2 = .ok (.iload_n 2, 1) := by decide +kernel
theorem dJ0_checkBoundsBeginEnd_23922_3 : decode cJ0_checkBoundsBeginEnd_23922 3 = .ok (.getstatic 1053, 3) := by decide +kernel
theorem dJ0_checkBoundsBeginEnd_23922_6 : decode cJ0_checkBoundsBeginEnd_23922 6 = .ok (.invokestatic 1062, 3) := by decide +kernel
theorem dJ0_checkBoundsBeginEnd_23922_9 : decode cJ0_checkBoundsBeginEnd_23922 9 = .ok (.pop, 1) := by decide +kernel
theorem dJ0_checkBoundsBeginEnd_23922_10 : decode cJ0_checkBoundsBeginEnd_23922 10 = .ok (.return_, 1) := by decide +kernel
theorem dJ1_charAt_3b067_0 : decode cJ1_charAt_3b067 0 = .ok (.iload_n 1, 1) := by decide +kernel
theorem dJ1_charAt_3b067_1 : decode cJ1_charAt_3b067 1 = .ok (.aload_n 0, 1) := by decide +kernel
theorem dJ1_charAt_3b067_2 : decode cJ1_charAt_3b067 2 = .ok (.arraylength, 1) := by decide +kernel
theorem dJ1_charAt_3b067_3 : decode cJ1_charAt_3b067 3 = .ok (.invokestatic 9, 3) := by decide +kernel
theorem dJ1_charAt_3b067_6 : decode cJ1_charAt_3b067 6 = .ok (.aload_n 0, 1) := by decide +kernel
theorem dJ1_charAt_3b067_7 : decode cJ1_charAt_3b067 7 = .ok (.iload_n 1, 1) := by decide +kernel
theorem dJ1_charAt_3b067_8 : decode cJ1_charAt_3b067 8 = .ok (.baload, 1) := by decide +kernel
theorem dJ1_charAt_3b067_9 : decode cJ1_charAt_3b067 9 = .ok (.sipush 255, 3) := by decide +kernel
theorem dJ1_charAt_3b067_12 : decode cJ1_charAt_3b067 12 = .ok (.iand, 1) := by decide +kernel
theorem dJ1_charAt_3b067_13 : decode cJ1_charAt_3b067 13 = .ok (.i2c, 1) := by decide +kernel
theorem dJ1_charAt_3b067_14 : decode cJ1_charAt_3b067 14 = .ok (.ireturn, 1) := by decide +kernel
theorem dJ1_canEncode_9a6ad_0 : decode cJ1_canEncode_9a6ad 0 = .ok (.iload_n 0, 1) := by decide +kernel
theorem dJ1_canEncode_9a6ad_1 : decode cJ1_canEncode_9a6ad 1 = .ok (.ifCond .lt 14, 3) := by decide +kernel
theorem dJ1_canEncode_9a6ad_4 : decode cJ1_canEncode_9a6ad 4 = .ok (.iload_n 0, 1) := by decide +kernel
theorem dJ1_canEncode_9a6ad_5 : decode cJ1_canEncode_9a6ad 5 = .ok (.sipush 255, 3) := by decide +kernel
theorem dJ1_canEncode_9a6ad_8 : decode cJ1_canEncode_9a6ad 8 = .ok (.if_icmp .gt 7, 3) := by decide +kernel
theorem dJ1_canEncode_9a6ad_11 : decode cJ1_canEncode_9a6ad 11 = .ok (.iconst 1, 1) := by decide +kernel
theorem dJ1_canEncode_9a6ad_12 : decode cJ1_canEncode_9a6ad 12 = .ok (.goto 4, 3) := by decide +kernel
theorem dJ1_canEncode_9a6ad_15 : decode cJ1_canEncode_9a6ad 15 = .ok (.iconst 0, 1) := by decide +kernel
theorem dJ1_canEncode_9a6ad_16 : decode cJ1_canEncode_9a6ad 16 = .ok (.ireturn, 1) := by decide +kernel
theorem dJ1_indexOf_4cfef_0 : decode cJ1_indexOf_4cfef 0 = .ok (.iload_n 1, 1) := by decide +kernel
theorem dJ1_indexOf_4cfef_1 : decode cJ1_indexOf_4cfef 1 = .ok (.invokestatic 88, 3) := by decide +kernel
theorem dJ1_indexOf_4cfef_4 : decode cJ1_indexOf_4cfef 4 = .ok (.ifCond .ne 5, 3) := by decide +kernel
theorem dJ1_indexOf_4cfef_7 : decode cJ1_indexOf_4cfef 7 = .ok (.iconst (-1), 1) := by decide +kernel
theorem dJ1_indexOf_4cfef_8 : decode cJ1_indexOf_4cfef 8 = .ok (.ireturn, 1) := by decide +kernel
theorem dJ1_indexOf_4cfef_9 : decode cJ1_indexOf_4cfef 9 = .ok (.iload_n 2, 1) := by decide +kernel
theorem dJ1_indexOf_4cfef_10 : decode cJ1_indexOf_4cfef 10 = .ok (.iconst 0, 1) := by decide +kernel
theorem dJ1_indexOf_4cfef_11 : decode cJ1_indexOf_4cfef 11 = .ok (.invokestatic 92, 3) := by decide +kernel
theorem dJ1_indexOf_4cfef_14 : decode cJ1_indexOf_4cfef 14 = .ok (.istore_n 2, 1) := by decide +kernel
theorem dJ1_indexOf_4cfef_15 : decode cJ1_indexOf_4cfef 15 = .ok (.iload_n 3, 1) := by decide +kernel
theorem dJ1_indexOf_4cfef_16 : decode cJ1_indexOf_4cfef 16 = .ok (.aload_n 0, 1) := by decide +kernel
theorem dJ1_indexOf_4cfef_17 : decode cJ1_indexOf_4cfef 17 = .ok (.arraylength, 1) := by decide +kernel
theorem dJ1_indexOf_4cfef_18 : decode cJ1_indexOf_4cfef 18 = .ok (.invokestatic 38, 3) := by decide +kernel
theorem dJ1_indexOf_4cfef_21 : decode cJ1_indexOf_4cfef 21 = .ok (.istore_n 3, 1) := by decide +kernel
theorem dJ1_indexOf_4cfef_22 : decode cJ1_indexOf_4cfef 22 = .ok (.iload_n 2, 1) := by decide +kernel
theorem dJ1_indexOf_4cfef_23 : decode cJ1_indexOf_4cfef 23 = .ok (.iload_n 3, 1) := by decide +kernel
theorem dJ1_indexOf_4cfef_24 : decode cJ1_indexOf_4cfef 24 = .ok (.if_icmp .lt 5, 3) := by decide +kernel
theorem dJ1_indexOf_4cfef_27 : decode cJ1_indexOf_4cfef 27 = .ok (.iconst (-1), 1) := by decide +kernel
theorem dJ1_indexOf_4cfef_28 : decode cJ1_indexOf_4cfef 28 = .ok (.ireturn, 1) := by decide +kernel
theorem dJ1_indexOf_4cfef_29 : decode cJ1_indexOf_4cfef 29 = .ok (.aload_n 0, 1) := by decide +kernel
theorem dJ1_indexOf_4cfef_30 : decode cJ1_indexOf_4cfef 30 = .ok (.iload_n 1, 1) := by decide +kernel
theorem dJ1_indexOf_4cfef_31 : decode cJ1_indexOf_4cfef 31 = .ok (.iload_n 2, 1) := by decide +kernel
theorem dJ1_indexOf_4cfef_32 : decode cJ1_indexOf_4cfef 32 = .ok (.iload_n 3, 1) := by decide +kernel
theorem dJ1_indexOf_4cfef_33 : decode cJ1_indexOf_4cfef 33 = .ok (.invokestatic 95, 3) := by decide +kernel
theorem dJ1_indexOf_4cfef_36 : decode cJ1_indexOf_4cfef 36 = .ok (.ireturn, 1) := by decide +kernel
theorem dJ1_indexOfChar_4cfef_0 : decode cJ1_indexOfChar_4cfef 0 = .ok (.iload_n 1, 1) := by decide +kernel
theorem dJ1_indexOfChar_4cfef_1 : decode cJ1_indexOfChar_4cfef 1 = .ok (.i2b, 1) := by decide +kernel
theorem dJ1_indexOfChar_4cfef_2 : decode cJ1_indexOfChar_4cfef 2 = .ok (.istore 4, 2) := by decide +kernel
theorem dJ1_indexOfChar_4cfef_4 : decode cJ1_indexOfChar_4cfef 4 = .ok (.iload_n 2, 1) := by decide +kernel
theorem dJ1_indexOfChar_4cfef_5 : decode cJ1_indexOfChar_4cfef 5 = .ok (.istore 5, 2) := by decide +kernel
theorem dJ1_indexOfChar_4cfef_7 : decode cJ1_indexOfChar_4cfef 7 = .ok (.iload 5, 2) := by decide +kernel
theorem dJ1_indexOfChar_4cfef_9 : decode cJ1_indexOfChar_4cfef 9 = .ok (.iload_n 3, 1) := by decide +kernel
theorem dJ1_indexOfChar_4cfef_10 : decode cJ1_indexOfChar_4cfef 10 = .ok (.if_icmp .ge 21, 3) := by decide +kernel
theorem dJ1_indexOfChar_4cfef_13 : decode cJ1_indexOfChar_4cfef 13 = .ok (.aload_n 0, 1) := by decide +kernel
theorem dJ1_indexOfChar_4cfef_14 : decode cJ1_indexOfChar_4cfef 14 = .ok (.iload 5, 2) := by decide +kernel
theorem dJ1_indexOfChar_4cfef_16 : decode cJ1_indexOfChar_4cfef 16 = .ok (.baload, 1) := by decide +kernel
theorem dJ1_indexOfChar_4cfef_17 : decode cJ1_indexOfChar_4cfef 17 = .ok (.iload 4, 2) := by decide +kernel
theorem dJ1_indexOfChar_4cfef_19 : decode cJ1_indexOfChar_4cfef 19 = .ok (.if_icmp .ne 6, 3) := by decide +kernel
theorem dJ1_indexOfChar_4cfef_22 : decode cJ1_indexOfChar_4cfef 22 = .ok (.iload 5, 2) := by decide +kernel
theorem dJ1_indexOfChar_4cfef_24 : decode cJ1_indexOfChar_4cfef 24 = .ok (.ireturn, 1) := by decide +kernel
theorem dJ1_indexOfChar_4cfef_25 : decode cJ1_indexOfChar_4cfef 25 = .ok (.iinc 5 1, 3) := by decide +kernel
theorem dJ1_indexOfChar_4cfef_28 : decode cJ1_indexOfChar_4cfef 28 = .ok (.goto (-21), 3) := by decide +kernel
theorem dJ1_indexOfChar_4cfef_31 : decode cJ1_indexOfChar_4cfef 31 = .ok (.iconst (-1), 1) := by decide +kernel
theorem dJ1_indexOfChar_4cfef_32 : decode cJ1_indexOfChar_4cfef 32 = .ok (.ireturn, 1) := by decide +kernel
theorem dJ2_getChar_3b067_0 : decode cJ2_getChar_3b067 0 = .ok (.getstatic 44, 3) := by decide +kernel
theorem dJ2_getChar_3b067_3 : decode cJ2_getChar_3b067 3 = .ok (.ifCond .ne 25, 3) := by decide +kernel
theorem dJ2_getChar_3b067_6 : decode cJ2_getChar_3b067 6 = .ok (.iload_n 1, 1) := by decide +kernel
theorem dJ2_getChar_3b067_7 : decode cJ2_getChar_3b067 7 = .ok (.ifCond .lt 11, 3) := by decide +kernel
theorem dJ2_getChar_3b067_10 : decode cJ2_getChar_3b067 10 = .ok (.iload_n 1, 1) := by decide +kernel
theorem dJ2_getChar_3b067_11 : decode cJ2_getChar_3b067 11 = .ok (.aload_n 0, 1) := by decide +kernel
theorem dJ2_getChar_3b067_12 : decode cJ2_getChar_3b067 12 = .ok (.invokestatic 48, 3) := by decide +kernel
theorem dJ2_getChar_3b067_15 : decode cJ2_getChar_3b067 15 = .ok (.if_icmp .lt 13, 3) := by decide +kernel
theorem dJ2_getChar_3b067_18 : decode cJ2_getChar_3b067 18 = .ok (.new 52, 3) := by decide +kernel
theorem dJ2_getChar_3b067_21 : decode cJ2_getChar_3b067 21 = .ok (.dup, 1) := by decide +kernel
theorem dJ2_getChar_3b067_22 : decode cJ2_getChar_3b067 22 = .ok (.ldc 54, 2) := by decide +kernel
theorem dJ2_getChar_3b067_24 : decode cJ2_getChar_3b067 24 = .ok (.invokespecial 56, 3) := by decide +kernel
theorem dJ2_getChar_3b067_27 : decode cJ2_getChar_3b067 27 = .ok (.athrow, 1) := by decide +kernel
theorem dJ2_getChar_3b067_28 : decode cJ2_getChar_3b067 28 = .ok (.iload_n 1, 1) := by decide +kernel
theorem dJ2_getChar_3b067_29 : decode cJ2_getChar_3b067 29 = .ok (.iconst 1, 1) := by decide +kernel
theorem dJ2_getChar_3b067_30 : decode cJ2_getChar_3b067 30 = .ok (.ishl, 1) := by decide +kernel
theorem dJ2_getChar_3b067_31 : decode cJ2_getChar_3b067 31 = .ok (.istore_n 1, 1) := by decide +kernel
theorem dJ2_getChar_3b067_32 : decode cJ2_getChar_3b067 32 = .ok (.aload_n 0, 1) := by decide +kernel
theorem dJ2_getChar_3b067_33 : decode cJ2_getChar_3b067 33 = .ok (.iload_n 1, 1) := by decide +kernel
theorem dJ2_getChar_3b067_34 : decode cJ2_getChar_3b067 34 = .ok (.iinc 1 1, 3) := by decide +kernel
theorem dJ2_getChar_3b067_37 : decode cJ2_getChar_3b067 37 = .ok (.baload, 1) := by decide +kernel
theorem dJ2_getChar_3b067_38 : decode cJ2_getChar_3b067 38 = .ok (.sipush 255, 3) := by decide +kernel
theorem dJ2_getChar_3b067_41 : decode cJ2_getChar_3b067 41 = .ok (.iand, 1) := by decide +kernel
theorem dJ2_getChar_3b067_42 : decode cJ2_getChar_3b067 42 = .ok (.getstatic 59, 3) := by decide +kernel
theorem dJ2_getChar_3b067_45 : decode cJ2_getChar_3b067 45 = .ok (.ishl, 1) := by decide +kernel
theorem dJ2_getChar_3b067_46 : decode cJ2_getChar_3b067 46 = .ok (.aload_n 0, 1) := by decide +kernel
theorem dJ2_getChar_3b067_47 : decode cJ2_getChar_3b067 47 = .ok (.iload_n 1, 1) := by decide +kernel
theorem dJ2_getChar_3b067_48 : decode cJ2_getChar_3b067 48 = .ok (.baload, 1) := by decide +kernel
theorem dJ2_getChar_3b067_49 : decode cJ2_getChar_3b067 49 = .ok (.sipush 255, 3) := by decide +kernel
theorem dJ2_getChar_3b067_52 : decode cJ2_getChar_3b067 52 = .ok (.iand, 1) := by decide +kernel
theorem dJ2_getChar_3b067_53 : decode cJ2_getChar_3b067 53 = .ok (.getstatic 63, 3) := by decide +kernel
theorem dJ2_getChar_3b067_56 : decode cJ2_getChar_3b067 56 = .ok (.ishl, 1) := by decide +kernel
theorem dJ2_getChar_3b067_57 : decode cJ2_getChar_3b067 57 = .ok (.ior, 1) := by decide +kernel
theorem dJ2_getChar_3b067_58 : decode cJ2_getChar_3b067 58 = .ok (.i2c, 1) := by decide +kernel
theorem dJ2_getChar_3b067_59 : decode cJ2_getChar_3b067 59 = .ok (.ireturn, 1) := by decide +kernel
theorem dJ2_length_9d52b_0 : decode cJ2_length_9d52b 0 = .ok (.aload_n 0, 1) := by decide +kernel
theorem dJ2_length_9d52b_1 : decode cJ2_length_9d52b 1 = .ok (.arraylength, 1) := by decide +kernel
theorem dJ2_length_9d52b_2 : decode cJ2_length_9d52b 2 = .ok (.iconst 1, 1) := by decide +kernel
theorem dJ2_length_9d52b_3 : decode cJ2_length_9d52b 3 = .ok (.ishr, 1) := by decide +kernel
theorem dJ2_length_9d52b_4 : decode cJ2_length_9d52b 4 = .ok (.ireturn, 1) := by decide +kernel
theorem dJ2_indexOf_4cfef_0 : decode cJ2_indexOf_4cfef 0 = .ok (.iload_n 2, 1) := by decide +kernel
theorem dJ2_indexOf_4cfef_1 : decode cJ2_indexOf_4cfef 1 = .ok (.iconst 0, 1) := by decide +kernel
theorem dJ2_indexOf_4cfef_2 : decode cJ2_indexOf_4cfef 2 = .ok (.invokestatic 224, 3) := by decide +kernel
theorem dJ2_indexOf_4cfef_5 : decode cJ2_indexOf_4cfef 5 = .ok (.istore_n 2, 1) := by decide +kernel
theorem dJ2_indexOf_4cfef_6 : decode cJ2_indexOf_4cfef 6 = .ok (.iload_n 3, 1) := by decide +kernel
theorem dJ2_indexOf_4cfef_7 : decode cJ2_indexOf_4cfef 7 = .ok (.aload_n 0, 1) := by decide +kernel
theorem dJ2_indexOf_4cfef_8 : decode cJ2_indexOf_4cfef 8 = .ok (.arraylength, 1) := by decide +kernel
theorem dJ2_indexOf_4cfef_9 : decode cJ2_indexOf_4cfef 9 = .ok (.iconst 1, 1) := by decide +kernel
theorem dJ2_indexOf_4cfef_10 : decode cJ2_indexOf_4cfef 10 = .ok (.ishr, 1) := by decide +kernel
theorem dJ2_indexOf_4cfef_11 : decode cJ2_indexOf_4cfef 11 = .ok (.invokestatic 183, 3) := by decide +kernel
theorem dJ2_indexOf_4cfef_14 : decode cJ2_indexOf_4cfef 14 = .ok (.istore_n 3, 1) := by decide +kernel
theorem dJ2_indexOf_4cfef_15 : decode cJ2_indexOf_4cfef 15 = .ok (.iload_n 2, 1) := by decide +kernel
theorem dJ2_indexOf_4cfef_16 : decode cJ2_indexOf_4cfef 16 = .ok (.iload_n 3, 1) := by decide +kernel
theorem dJ2_indexOf_4cfef_17 : decode cJ2_indexOf_4cfef 17 = .ok (.if_icmp .lt 5, 3) := by decide +kernel
theorem dJ2_indexOf_4cfef_20 : decode cJ2_indexOf_4cfef 20 = .ok (.iconst (-1), 1) := by decide +kernel
theorem dJ2_indexOf_4cfef_21 : decode cJ2_indexOf_4cfef 21 = .ok (.ireturn, 1) := by decide +kernel
theorem dJ2_indexOf_4cfef_22 : decode cJ2_indexOf_4cfef 22 = .ok (.iload_n 1, 1) := by decide +kernel
theorem dJ2_indexOf_4cfef_23 : decode cJ2_indexOf_4cfef 23 = .ok (.ldc 227, 2) := by decide +kernel
theorem dJ2_indexOf_4cfef_25 : decode cJ2_indexOf_4cfef 25 = .ok (.if_icmp .ge 11, 3) := by decide +kernel
theorem dJ2_indexOf_4cfef_28 : decode cJ2_indexOf_4cfef 28 = .ok (.aload_n 0, 1) := by decide +kernel
theorem dJ2_indexOf_4cfef_29 : decode cJ2_indexOf_4cfef 29 = .ok (.iload_n 1, 1) := by decide +kernel
theorem dJ2_indexOf_4cfef_30 : decode cJ2_indexOf_4cfef 30 = .ok (.iload_n 2, 1) := by decide +kernel
theorem dJ2_indexOf_4cfef_31 : decode cJ2_indexOf_4cfef 31 = .ok (.iload_n 3, 1) := by decide +kernel
theorem dJ2_indexOf_4cfef_32 : decode cJ2_indexOf_4cfef 32 = .ok (.invokestatic 228, 3) := by decide +kernel
theorem dJ2_indexOf_4cfef_35 : decode cJ2_indexOf_4cfef 35 = .ok (.ireturn, 1) := by decide +kernel
theorem dJ2_indexOf_4cfef_36 : decode cJ2_indexOf_4cfef 36 = .ok (.aload_n 0, 1) := by decide +kernel
theorem dJ2_indexOf_4cfef_37 : decode cJ2_indexOf_4cfef 37 = .ok (.iload_n 1, 1) := by decide +kernel
theorem dJ2_indexOf_4cfef_38 : decode cJ2_indexOf_4cfef 38 = .ok (.iload_n 2, 1) := by decide +kernel
theorem dJ2_indexOf_4cfef_39 : decode cJ2_indexOf_4cfef 39 = .ok (.iload_n 3, 1) := by decide +kernel
theorem dJ2_indexOf_4cfef_40 : decode cJ2_indexOf_4cfef 40 = .ok (.invokestatic 232, 3) := by decide +kernel
theorem dJ2_indexOf_4cfef_43 : decode cJ2_indexOf_4cfef 43 = .ok (.ireturn, 1) := by decide +kernel
theorem dJ2_indexOfChar_4cfef_0 : decode cJ2_indexOfChar_4cfef 0 = .ok (.iload_n 2, 1) := by decide +kernel
theorem dJ2_indexOfChar_4cfef_1 : decode cJ2_indexOfChar_4cfef 1 = .ok (.iload_n 3, 1) := by decide +kernel
theorem dJ2_indexOfChar_4cfef_2 : decode cJ2_indexOfChar_4cfef 2 = .ok (.aload_n 0, 1) := by decide +kernel
theorem dJ2_indexOfChar_4cfef_3 : decode cJ2_indexOfChar_4cfef 3 = .ok (.invokestatic 96, 3) := by decide +kernel
theorem dJ2_indexOfChar_4cfef_6 : decode cJ2_indexOfChar_4cfef 6 = .ok (.aload_n 0, 1) := by decide +kernel
theorem dJ2_indexOfChar_4cfef_7 : decode cJ2_indexOfChar_4cfef 7 = .ok (.iload_n 1, 1) := by decide +kernel
theorem dJ2_indexOfChar_4cfef_8 : decode cJ2_indexOfChar_4cfef 8 = .ok (.iload_n 2, 1) := by decide +kernel
theorem dJ2_indexOfChar_4cfef_9 : decode cJ2_indexOfChar_4cfef 9 = .ok (.iload_n 3, 1) := by decide +kernel
theorem dJ2_indexOfChar_4cfef_10 : decode cJ2_indexOfChar_4cfef 10 = .ok (.invokestatic 244, 3) := by decide +kernel
theorem dJ2_indexOfChar_4cfef_13 : decode cJ2_indexOfChar_4cfef 13 = .ok (.ireturn, 1) := by decide +kernel
theorem dJ2_indexOfCharUnsafe_4cfef_0 : decode cJ2_indexOfCharUnsafe_4cfef 0 = .ok (.iload_n 2, 1) := by decide +kernel
theorem dJ2_indexOfCharUnsafe_4cfef_1 : decode cJ2_indexOfCharUnsafe_4cfef 1 = .ok (.istore 4, 2) := by decide +kernel
theorem dJ2_indexOfCharUnsafe_4cfef_3 : decode cJ2_indexOfCharUnsafe_4cfef 3 = .ok (.iload 4, 2) := by decide +kernel
theorem dJ2_indexOfCharUnsafe_4cfef_5 : decode cJ2_indexOfCharUnsafe_4cfef 5 = .ok (.iload_n 3, 1) := by decide +kernel
theorem dJ2_indexOfCharUnsafe_4cfef_6 : decode cJ2_indexOfCharUnsafe_4cfef 6 = .ok (.if_icmp .ge 22, 3) := by decide +kernel
theorem dJ2_indexOfCharUnsafe_4cfef_9 : decode cJ2_indexOfCharUnsafe_4cfef 9 = .ok (.aload_n 0, 1) := by decide +kernel
theorem dJ2_indexOfCharUnsafe_4cfef_10 : decode cJ2_indexOfCharUnsafe_4cfef 10 = .ok (.iload 4, 2) := by decide +kernel
theorem dJ2_indexOfCharUnsafe_4cfef_12 : decode cJ2_indexOfCharUnsafe_4cfef 12 = .ok (.invokestatic 71, 3) := by decide +kernel
theorem dJ2_indexOfCharUnsafe_4cfef_15 : decode cJ2_indexOfCharUnsafe_4cfef 15 = .ok (.iload_n 1, 1) := by decide +kernel
theorem dJ2_indexOfCharUnsafe_4cfef_16 : decode cJ2_indexOfCharUnsafe_4cfef 16 = .ok (.if_icmp .ne 6, 3) := by decide +kernel
theorem dJ2_indexOfCharUnsafe_4cfef_19 : decode cJ2_indexOfCharUnsafe_4cfef 19 = .ok (.iload 4, 2) := by decide +kernel
theorem dJ2_indexOfCharUnsafe_4cfef_21 : decode cJ2_indexOfCharUnsafe_4cfef 21 = .ok (.ireturn, 1) := by decide +kernel
theorem dJ2_indexOfCharUnsafe_4cfef_22 : decode cJ2_indexOfCharUnsafe_4cfef 22 = .ok (.iinc 4 1, 3) := by decide +kernel
theorem dJ2_indexOfCharUnsafe_4cfef_25 : decode cJ2_indexOfCharUnsafe_4cfef 25 = .ok (.goto (-22), 3) := by decide +kernel
theorem dJ2_indexOfCharUnsafe_4cfef_28 : decode cJ2_indexOfCharUnsafe_4cfef 28 = .ok (.iconst (-1), 1) := by decide +kernel
theorem dJ2_indexOfCharUnsafe_4cfef_29 : decode cJ2_indexOfCharUnsafe_4cfef 29 = .ok (.ireturn, 1) := by decide +kernel
theorem dJ2_indexOfSupplementary_4cfef_0 : decode cJ2_indexOfSupplementary_4cfef 0 = .ok (.iload_n 1, 1) := by decide +kernel
theorem dJ2_indexOfSupplementary_4cfef_1 : decode cJ2_indexOfSupplementary_4cfef 1 = .ok (.invokestatic 164, 3) := by decide +kernel
theorem dJ2_indexOfSupplementary_4cfef_4 : decode cJ2_indexOfSupplementary_4cfef 4 = .ok (.ifCond .eq 65, 3) := by decide +kernel
theorem dJ2_indexOfSupplementary_4cfef_7 : decode cJ2_indexOfSupplementary_4cfef 7 = .ok (.iload_n 1, 1) := by decide +kernel
theorem dJ2_indexOfSupplementary_4cfef_8 : decode cJ2_indexOfSupplementary_4cfef 8 = .ok (.invokestatic 157, 3) := by decide +kernel
theorem dJ2_indexOfSupplementary_4cfef_11 : decode cJ2_indexOfSupplementary_4cfef 11 = .ok (.istore 4, 2) := by decide +kernel
theorem dJ2_indexOfSupplementary_4cfef_13 : decode cJ2_indexOfSupplementary_4cfef 13 = .ok (.iload_n 1, 1) := by decide +kernel
theorem dJ2_indexOfSupplementary_4cfef_14 : decode cJ2_indexOfSupplementary_4cfef 14 = .ok (.invokestatic 161, 3) := by decide +kernel
theorem dJ2_indexOfSupplementary_4cfef_17 : decode cJ2_indexOfSupplementary_4cfef 17 = .ok (.istore 5, 2) := by decide +kernel
theorem dJ2_indexOfSupplementary_4cfef_19 : decode cJ2_indexOfSupplementary_4cfef 19 = .ok (.iload_n 2, 1) := by decide +kernel
theorem dJ2_indexOfSupplementary_4cfef_20 : decode cJ2_indexOfSupplementary_4cfef 20 = .ok (.iload_n 3, 1) := by decide +kernel
theorem dJ2_indexOfSupplementary_4cfef_21 : decode cJ2_indexOfSupplementary_4cfef 21 = .ok (.aload_n 0, 1) := by decide +kernel
theorem dJ2_indexOfSupplementary_4cfef_22 : decode cJ2_indexOfSupplementary_4cfef 22 = .ok (.invokestatic 96, 3) := by decide +kernel
theorem dJ2_indexOfSupplementary_4cfef_25 : decode cJ2_indexOfSupplementary_4cfef 25 = .ok (.iload_n 2, 1) := by decide +kernel
theorem dJ2_indexOfSupplementary_4cfef_26 : decode cJ2_indexOfSupplementary_4cfef 26 = .ok (.istore 6, 2) := by decide +kernel
theorem dJ2_indexOfSupplementary_4cfef_28 : decode cJ2_indexOfSupplementary_4cfef 28 = .ok (.iload 6, 2) := by decide +kernel
theorem dJ2_indexOfSupplementary_4cfef_30 : decode cJ2_indexOfSupplementary_4cfef 30 = .ok (.iload_n 3, 1) := by decide +kernel
theorem dJ2_indexOfSupplementary_4cfef_31 : decode cJ2_indexOfSupplementary_4cfef 31 = .ok (.iconst 1, 1) := by decide +kernel
theorem dJ2_indexOfSupplementary_4cfef_32 : decode cJ2_indexOfSupplementary_4cfef 32 = .ok (.isub, 1) := by decide +kernel
theorem dJ2_indexOfSupplementary_4cfef_33 : decode cJ2_indexOfSupplementary_4cfef 33 = .ok (.if_icmp .ge 36, 3) := by decide +kernel
theorem dJ2_indexOfSupplementary_4cfef_36 : decode cJ2_indexOfSupplementary_4cfef 36 = .ok (.aload_n 0, 1) := by decide +kernel
theorem dJ2_indexOfSupplementary_4cfef_37 : decode cJ2_indexOfSupplementary_4cfef 37 = .ok (.iload 6, 2) := by decide +kernel
theorem dJ2_indexOfSupplementary_4cfef_39 : decode cJ2_indexOfSupplementary_4cfef 39 = .ok (.invokestatic 71, 3) := by decide +kernel
theorem dJ2_indexOfSupplementary_4cfef_42 : decode cJ2_indexOfSupplementary_4cfef 42 = .ok (.iload 4, 2) := by decide +kernel
theorem dJ2_indexOfSupplementary_4cfef_44 : decode cJ2_indexOfSupplementary_4cfef 44 = .ok (.if_icmp .ne 19, 3) := by decide +kernel
theorem dJ2_indexOfSupplementary_4cfef_47 : decode cJ2_indexOfSupplementary_4cfef 47 = .ok (.aload_n 0, 1) := by decide +kernel
theorem dJ2_indexOfSupplementary_4cfef_48 : decode cJ2_indexOfSupplementary_4cfef 48 = .ok (.iload 6, 2) := by decide +kernel
theorem dJ2_indexOfSupplementary_4cfef_50 : decode cJ2_indexOfSupplementary_4cfef 50 = .ok (.iconst 1, 1) := by decide +kernel
theorem dJ2_indexOfSupplementary_4cfef_51 : decode cJ2_indexOfSupplementary_4cfef 51 = .ok (.iadd, 1) := by decide +kernel
theorem dJ2_indexOfSupplementary_4cfef_52 : decode cJ2_indexOfSupplementary_4cfef 52 = .ok (.invokestatic 71, 3) := by decide +kernel
theorem dJ2_indexOfSupplementary_4cfef_55 : decode cJ2_indexOfSupplementary_4cfef 55 = .ok (.iload 5, 2) := by decide +kernel
theorem dJ2_indexOfSupplementary_4cfef_57 : decode cJ2_indexOfSupplementary_4cfef 57 = .ok (.if_icmp .ne 6, 3) := by decide +kernel
theorem dJ2_indexOfSupplementary_4cfef_60 : decode cJ2_indexOfSupplementary_4cfef 60 = .ok (.iload 6, 2) := by decide +kernel
theorem dJ2_indexOfSupplementary_4cfef_62 : decode cJ2_indexOfSupplementary_4cfef 62 = .ok (.ireturn, 1) := by decide +kernel
theorem dJ2_indexOfSupplementary_4cfef_63 : decode cJ2_indexOfSupplementary_4cfef 63 = .ok (.iinc 6 1, 3) := by decide +kernel
theorem dJ2_indexOfSupplementary_4cfef_66 : decode cJ2_indexOfSupplementary_4cfef 66 = .ok (.goto (-38), 3) := by decide +kernel
theorem dJ2_indexOfSupplementary_4cfef_69 : decode cJ2_indexOfSupplementary_4cfef 69 = .ok (.iconst (-1), 1) := by decide +kernel
theorem dJ2_indexOfSupplementary_4cfef_70 : decode cJ2_indexOfSupplementary_4cfef 70 = .ok (.ireturn, 1) := by decide +kernel
theorem dJ2_charAt_3b067_0 : decode cJ2_charAt_3b067 0 = .ok (.iload_n 1, 1) := by decide +kernel
theorem dJ2_charAt_3b067_1 : decode cJ2_charAt_3b067 1 = .ok (.aload_n 0, 1) := by decide +kernel
theorem dJ2_charAt_3b067_2 : decode cJ2_charAt_3b067 2 = .ok (.invokestatic 67, 3) := by decide +kernel
theorem dJ2_charAt_3b067_5 : decode cJ2_charAt_3b067 5 = .ok (.aload_n 0, 1) := by decide +kernel
theorem dJ2_charAt_3b067_6 : decode cJ2_charAt_3b067 6 = .ok (.iload_n 1, 1) := by decide +kernel
theorem dJ2_charAt_3b067_7 : decode cJ2_charAt_3b067 7 = .ok (.invokestatic 71, 3) := by decide +kernel
theorem dJ2_charAt_3b067_10 : decode cJ2_charAt_3b067 10 = .ok (.ireturn, 1) := by decide +kernel
theorem dJ2_checkIndex_2214a_0 : decode cJ2_checkIndex_2214a 0 = .ok (.iload_n 0, 1) := by decide +kernel
theorem dJ2_checkIndex_2214a_1 : decode cJ2_checkIndex_2214a 1 = .ok (.aload_n 1, 1) := by decide +kernel
theorem dJ2_checkIndex_2214a_2 : decode cJ2_checkIndex_2214a 2 = .ok (.invokestatic 48, 3) := by decide +kernel
theorem dJ2_checkIndex_2214a_5 : decode cJ2_checkIndex_2214a 5 = .ok (.invokestatic 414, 3) := by decide +kernel
theorem dJ2_checkIndex_2214a_8 : decode cJ2_checkIndex_2214a 8 = .ok (.return_, 1) := by decide +kernel
theorem dJ2_checkBoundsBeginEnd_d044e_0 : decode cJ2_checkBoundsBeginEnd_d044e 0 = .ok (.iload_n 0, 1) := by decide +kernel
theorem dJ2_checkBoundsBeginEnd_d044e_1 : decode cJ2_checkBoundsBeginEnd_d044e 1 = .ok (.iload_n 1, 1) := by decide +kernel
theorem dJ2_checkBoundsBeginEnd_d044e_2 : decode cJ2_checkBoundsBeginEnd_d044e 2 = .ok (.aload_n 2, 1) := by decide +kernel
theorem dJ2_checkBoundsBeginEnd_d044e_3 : decode cJ2_checkBoundsBeginEnd_d044e 3 = .ok (.invokestatic 48, 3) := by decide +kernel
theorem dJ2_checkBoundsBeginEnd_d044e_6 : decode cJ2_checkBoundsBeginEnd_d044e 6 = .ok (.invokestatic 241, 3) := by decide +kernel
theorem dJ2_checkBoundsBeginEnd_d044e_9 : decode cJ2_checkBoundsBeginEnd_d044e 9 = .ok (.return_, 1) := by decide +kernel
theorem dJ3_checkIndex_8e157_0 : decode cJ3_checkIndex_8e157 0 = .ok (.iload_n 0, 1) := by decide +kernel
theorem dJ3_checkIndex_8e157_1 : decode cJ3_checkIndex_8e157 1 = .ok (.ifCond .lt 8, 3) := by decide +kernel
theorem dJ3_checkIndex_8e157_4 : decode cJ3_checkIndex_8e157 4 = .ok (.iload_n 0, 1) := by decide +kernel
theorem dJ3_checkIndex_8e157_5 : decode cJ3_checkIndex_8e157 5 = .ok (.iload_n 1, 1) := by decide +kernel
theorem dJ3_checkIndex_8e157_6 : decode cJ3_checkIndex_8e157 6 = .ok (.if_icmp .lt 10, 3) := by decide +kernel
theorem dJ3_checkIndex_8e157_9 : decode cJ3_checkIndex_8e157 9 = .ok (.aload_n 2, 1) := by decide +kernel
theorem dJ3_checkIndex_8e157_10 : decode cJ3_checkIndex_8e157 10 = .ok (.iload_n 0, 1) := by decide +kernel
theorem dJ3_checkIndex_8e157_11 : decode cJ3_checkIndex_8e157 11 = .ok (.iload_n 1, 1) := by decide +kernel
theorem dJ3_checkIndex_8e157_12 : decode cJ3_checkIndex_8e157 12 = .ok (.invokestatic 95, 3) := by decide +kernel
theorem dJ3_checkIndex_8e157_15 : decode cJ3_checkIndex_8e157 15 = .ok (.athrow, 1) := by decide +kernel
theorem dJ3_checkIndex_8e157_16 : decode cJ3_checkIndex_8e157 16 = .ok (.iload_n 0, 1) := by decide +kernel
theorem dJ3_checkIndex_8e157_17 : decode cJ3_checkIndex_8e157 17 = .ok (.ireturn, 1) := by decide +kernel
theorem dJ3_checkFromToIndex_8c36e_0 : decode cJ3_checkFromToIndex_8c36e 0 = .ok (.iload_n 0, 1) := by decide +kernel
theorem dJ3_checkFromToIndex_8c36e_1 : decode cJ3_checkFromToIndex_8c36e 1 = .ok (.ifCond .lt 13, 3) := by decide +kernel
theorem dJ3_checkFromToIndex_8c36e_4 : decode cJ3_checkFromToIndex_8c36e 4 = .ok (.iload_n 0, 1) := by decide +kernel
theorem dJ3_checkFromToIndex_8c36e_5 : decode cJ3_checkFromToIndex_8c36e 5 = .ok (.iload_n 1, 1) := by decide +kernel
theorem dJ3_checkFromToIndex_8c36e_6 : decode cJ3_checkFromToIndex_8c36e 6 = .ok (.if_icmp .gt 8, 3) := by decide +kernel
theorem dJ3_checkFromToIndex_8c36e_9 : decode cJ3_checkFromToIndex_8c36e 9 = .ok (.iload_n 1, 1) := by decide +kernel
theorem dJ3_checkFromToIndex_8c36e_10 : decode cJ3_checkFromToIndex_8c36e 10 = .ok (.iload_n 2, 1) := by decide +kernel
theorem dJ3_checkFromToIndex_8c36e_11 : decode cJ3_checkFromToIndex_8c36e 11 = .ok (.if_icmp .le 11, 3) := by decide +kernel
theorem dJ3_checkFromToIndex_8c36e_14 : decode cJ3_checkFromToIndex_8c36e 14 = .ok (.aload_n 3, 1) := by decide +kernel
theorem dJ3_checkFromToIndex_8c36e_15 : decode cJ3_checkFromToIndex_8c36e 15 = .ok (.iload_n 0, 1) := by decide +kernel
theorem dJ3_checkFromToIndex_8c36e_16 : decode cJ3_checkFromToIndex_8c36e 16 = .ok (.iload_n 1, 1) := by decide +kernel
theorem dJ3_checkFromToIndex_8c36e_17 : decode cJ3_checkFromToIndex_8c36e 17 = .ok (.iload_n 2, 1) := by decide +kernel
theorem dJ3_checkFromToIndex_8c36e_18 : decode cJ3_checkFromToIndex_8c36e 18 = .ok (.invokestatic 99, 3) := by decide +kernel
theorem dJ3_checkFromToIndex_8c36e_21 : decode cJ3_checkFromToIndex_8c36e 21 = .ok (.athrow, 1) := by decide +kernel
theorem dJ3_checkFromToIndex_8c36e_22 : decode cJ3_checkFromToIndex_8c36e 22 = .ok (.iload_n 0, 1) := by decide +kernel
theorem dJ3_checkFromToIndex_8c36e_23 : decode cJ3_checkFromToIndex_8c36e 23 = .ok (.ireturn, 1) := by decide +kernel
theorem dL_law_0 : decode cL_law 0 = .ok (.new 7, 3) := by decide +kernel
theorem dL_law_3 : decode cL_law 3 = .ok (.dup, 1) := by decide +kernel
theorem dL_law_4 : decode cL_law 4 = .ok (.invokespecial 9, 3) := by decide +kernel
theorem dL_law_7 : decode cL_law 7 = .ok (.astore_n 1, 1) := by decide +kernel
theorem dL_law_8 : decode cL_law 8 = .ok (.new 10, 3) := by decide +kernel
theorem dL_law_11 : decode cL_law 11 = .ok (.dup, 1) := by decide +kernel
theorem dL_law_12 : decode cL_law 12 = .ok (.invokespecial 12, 3) := by decide +kernel
theorem dL_law_15 : decode cL_law 15 = .ok (.astore_n 2, 1) := by decide +kernel
theorem dL_law_16 : decode cL_law 16 = .ok (.iconst 0, 1) := by decide +kernel
theorem dL_law_17 : decode cL_law 17 = .ok (.istore_n 3, 1) := by decide +kernel
theorem dL_law_18 : decode cL_law 18 = .ok (.iload_n 3, 1) := by decide +kernel
theorem dL_law_19 : decode cL_law 19 = .ok (.aload_n 0, 1) := by decide +kernel
theorem dL_law_20 : decode cL_law 20 = .ok (.arraylength, 1) := by decide +kernel
theorem dL_law_21 : decode cL_law 21 = .ok (.bipush 6, 2) := by decide +kernel
theorem dL_law_23 : decode cL_law 23 = .ok (.isub, 1) := by decide +kernel
theorem dL_law_24 : decode cL_law 24 = .ok (.if_icmp .gt 1073, 3) := by decide +kernel
theorem dL_law_27 : decode cL_law 27 = .ok (.aload_n 0, 1) := by decide +kernel
theorem dL_law_28 : decode cL_law 28 = .ok (.iload_n 3, 1) := by decide +kernel
theorem dL_law_29 : decode cL_law 29 = .ok (.iaload, 1) := by decide +kernel
theorem dL_law_30 : decode cL_law 30 = .ok (.bipush 31, 2) := by decide +kernel
theorem dL_law_32 : decode cL_law 32 = .ok (.iand, 1) := by decide +kernel
theorem dL_law_33 : decode cL_law 33 = .ok (.tableswitch 1058 0 30 #[139, 162, 185, 248, 271, 284, 307, 350, 373, 386, 419, 482, 515, 548, 581, 614, 647, 660, 693, 716, 749, 782, 815, 848, 861, 914, 927, 950, 973, 996, 1035], 139) := by decide +kernel
theorem dL_law_172 : decode cL_law 172 = .ok (.aload_n 1, 1) := by decide +kernel
theorem dL_law_173 : decode cL_law 173 = .ok (.aload_n 0, 1) := by decide +kernel
theorem dL_law_174 : decode cL_law 174 = .ok (.iload_n 3, 1) := by decide +kernel
theorem dL_law_175 : decode cL_law 175 = .ok (.iconst 1, 1) := by decide +kernel
theorem dL_law_176 : decode cL_law 176 = .ok (.iadd, 1) := by decide +kernel
theorem dL_law_177 : decode cL_law 177 = .ok (.iaload, 1) := by decide +kernel
theorem dL_law_178 : decode cL_law 178 = .ok (.invokevirtual 13, 3) := by decide +kernel
theorem dL_law_181 : decode cL_law 181 = .ok (.aload_n 2, 1) := by decide +kernel
theorem dL_law_182 : decode cL_law 182 = .ok (.aload_n 0, 1) := by decide +kernel
theorem dL_law_183 : decode cL_law 183 = .ok (.iload_n 3, 1) := by decide +kernel
theorem dL_law_184 : decode cL_law 184 = .ok (.iconst 1, 1) := by decide +kernel
theorem dL_law_185 : decode cL_law 185 = .ok (.iadd, 1) := by decide +kernel
theorem dL_law_186 : decode cL_law 186 = .ok (.iaload, 1) := by decide +kernel
theorem dL_law_187 : decode cL_law 187 = .ok (.invokevirtual 17, 3) := by decide +kernel
theorem dL_law_190 : decode cL_law 190 = .ok (.if_icmp .eq 901, 3) := by decide +kernel
theorem dL_law_193 : decode cL_law 193 = .ok (.iconst 0, 1) := by decide +kernel
theorem dL_law_194 : decode cL_law 194 = .ok (.ireturn, 1) := by decide +kernel
theorem dL_law_195 : decode cL_law 195 = .ok (.aload_n 1, 1) := by decide +kernel
theorem dL_law_196 : decode cL_law 196 = .ok (.aload_n 0, 1) := by decide +kernel
theorem dL_law_197 : decode cL_law 197 = .ok (.iload_n 3, 1) := by decide +kernel
theorem dL_law_198 : decode cL_law 198 = .ok (.iconst 1, 1) := by decide +kernel
theorem dL_law_199 : decode cL_law 199 = .ok (.iadd, 1) := by decide +kernel
theorem dL_law_200 : decode cL_law 200 = .ok (.iaload, 1) := by decide +kernel
theorem dL_law_201 : decode cL_law 201 = .ok (.invokevirtual 18, 3) := by decide +kernel
theorem dL_law_204 : decode cL_law 204 = .ok (.aload_n 2, 1) := by decide +kernel
theorem dL_law_205 : decode cL_law 205 = .ok (.aload_n 0, 1) := by decide +kernel
theorem dL_law_206 : decode cL_law 206 = .ok (.iload_n 3, 1) := by decide +kernel
theorem dL_law_207 : decode cL_law 207 = .ok (.iconst 1, 1) := by decide +kernel
theorem dL_law_208 : decode cL_law 208 = .ok (.iadd, 1) := by decide +kernel
theorem dL_law_209 : decode cL_law 209 = .ok (.iaload, 1) := by decide +kernel
theorem dL_law_210 : decode cL_law 210 = .ok (.invokevirtual 22, 3) := by decide +kernel
theorem dL_law_213 : decode cL_law 213 = .ok (.if_icmp .eq 878, 3) := by decide +kernel
theorem dL_law_216 : decode cL_law 216 = .ok (.iconst 0, 1) := by decide +kernel
theorem dL_law_217 : decode cL_law 217 = .ok (.ireturn, 1) := by decide +kernel
theorem dL_law_218 : decode cL_law 218 = .ok (.aload_n 1, 1) := by decide +kernel
theorem dL_law_219 : decode cL_law 219 = .ok (.aload_n 0, 1) := by decide +kernel
theorem dL_law_220 : decode cL_law 220 = .ok (.iload_n 3, 1) := by decide +kernel
theorem dL_law_221 : decode cL_law 221 = .ok (.iconst 1, 1) := by decide +kernel
theorem dL_law_222 : decode cL_law 222 = .ok (.iadd, 1) := by decide +kernel
theorem dL_law_223 : decode cL_law 223 = .ok (.iaload, 1) := by decide +kernel
theorem dL_law_224 : decode cL_law 224 = .ok (.aload_n 0, 1) := by decide +kernel
theorem dL_law_225 : decode cL_law 225 = .ok (.iload_n 3, 1) := by decide +kernel
theorem dL_law_226 : decode cL_law 226 = .ok (.iconst 2, 1) := by decide +kernel
theorem dL_law_227 : decode cL_law 227 = .ok (.iadd, 1) := by decide +kernel
theorem dL_law_228 : decode cL_law 228 = .ok (.iaload, 1) := by decide +kernel
theorem dL_law_229 : decode cL_law 229 = .ok (.aload_n 0, 1) := by decide +kernel
theorem dL_law_230 : decode cL_law 230 = .ok (.iload_n 3, 1) := by decide +kernel
theorem dL_law_231 : decode cL_law 231 = .ok (.iconst 3, 1) := by decide +kernel
theorem dL_law_232 : decode cL_law 232 = .ok (.iadd, 1) := by decide +kernel
theorem dL_law_233 : decode cL_law 233 = .ok (.iaload, 1) := by decide +kernel
theorem dL_law_234 : decode cL_law 234 = .ok (.aload_n 0, 1) := by decide +kernel
theorem dL_law_235 : decode cL_law 235 = .ok (.iload_n 3, 1) := by decide +kernel
theorem dL_law_236 : decode cL_law 236 = .ok (.iconst 4, 1) := by decide +kernel
theorem dL_law_237 : decode cL_law 237 = .ok (.iadd, 1) := by decide +kernel
theorem dL_law_238 : decode cL_law 238 = .ok (.iaload, 1) := by decide +kernel
theorem dL_law_239 : decode cL_law 239 = .ok (.aload_n 0, 1) := by decide +kernel
theorem dL_law_240 : decode cL_law 240 = .ok (.iload_n 3, 1) := by decide +kernel
theorem dL_law_241 : decode cL_law 241 = .ok (.iconst 5, 1) := by decide +kernel
theorem dL_law_242 : decode cL_law 242 = .ok (.iadd, 1) := by decide +kernel
theorem dL_law_243 : decode cL_law 243 = .ok (.iaload, 1) := by decide +kernel
theorem dL_law_244 : decode cL_law 244 = .ok (.invokevirtual 23, 3) := by decide +kernel
theorem dL_law_247 : decode cL_law 247 = .ok (.aload_n 2, 1) := by decide +kernel
theorem dL_law_248 : decode cL_law 248 = .ok (.aload_n 0, 1) := by decide +kernel
theorem dL_law_249 : decode cL_law 249 = .ok (.iload_n 3, 1) := by decide +kernel
theorem dL_law_250 : decode cL_law 250 = .ok (.iconst 1, 1) := by decide +kernel
theorem dL_law_251 : decode cL_law 251 = .ok (.iadd, 1) := by decide +kernel
theorem dL_law_252 : decode cL_law 252 = .ok (.iaload, 1) := by decide +kernel
theorem dL_law_253 : decode cL_law 253 = .ok (.aload_n 0, 1) := by decide +kernel
theorem dL_law_254 : decode cL_law 254 = .ok (.iload_n 3, 1) := by decide +kernel
theorem dL_law_255 : decode cL_law 255 = .ok (.iconst 2, 1) := by decide +kernel
theorem dL_law_256 : decode cL_law 256 = .ok (.iadd, 1) := by decide +kernel
theorem dL_law_257 : decode cL_law 257 = .ok (.iaload, 1) := by decide +kernel
theorem dL_law_258 : decode cL_law 258 = .ok (.aload_n 0, 1) := by decide +kernel
theorem dL_law_259 : decode cL_law 259 = .ok (.iload_n 3, 1) := by decide +kernel
theorem dL_law_260 : decode cL_law 260 = .ok (.iconst 3, 1) := by decide +kernel
theorem dL_law_261 : decode cL_law 261 = .ok (.iadd, 1) := by decide +kernel
theorem dL_law_262 : decode cL_law 262 = .ok (.iaload, 1) := by decide +kernel
theorem dL_law_263 : decode cL_law 263 = .ok (.aload_n 0, 1) := by decide +kernel
theorem dL_law_264 : decode cL_law 264 = .ok (.iload_n 3, 1) := by decide +kernel
theorem dL_law_265 : decode cL_law 265 = .ok (.iconst 4, 1) := by decide +kernel
theorem dL_law_266 : decode cL_law 266 = .ok (.iadd, 1) := by decide +kernel
theorem dL_law_267 : decode cL_law 267 = .ok (.iaload, 1) := by decide +kernel
theorem dL_law_268 : decode cL_law 268 = .ok (.aload_n 0, 1) := by decide +kernel
theorem dL_law_269 : decode cL_law 269 = .ok (.iload_n 3, 1) := by decide +kernel
theorem dL_law_270 : decode cL_law 270 = .ok (.iconst 5, 1) := by decide +kernel
theorem dL_law_271 : decode cL_law 271 = .ok (.iadd, 1) := by decide +kernel
theorem dL_law_272 : decode cL_law 272 = .ok (.iaload, 1) := by decide +kernel
theorem dL_law_273 : decode cL_law 273 = .ok (.invokevirtual 27, 3) := by decide +kernel
theorem dL_law_276 : decode cL_law 276 = .ok (.if_icmp .eq 815, 3) := by decide +kernel
theorem dL_law_279 : decode cL_law 279 = .ok (.iconst 0, 1) := by decide +kernel
theorem dL_law_280 : decode cL_law 280 = .ok (.ireturn, 1) := by decide +kernel
theorem dL_law_281 : decode cL_law 281 = .ok (.aload_n 1, 1) := by decide +kernel
theorem dL_law_282 : decode cL_law 282 = .ok (.aload_n 0, 1) := by decide +kernel
theorem dL_law_283 : decode cL_law 283 = .ok (.iload_n 3, 1) := by decide +kernel
theorem dL_law_284 : decode cL_law 284 = .ok (.iconst 1, 1) := by decide +kernel
theorem dL_law_285 : decode cL_law 285 = .ok (.iadd, 1) := by decide +kernel
theorem dL_law_286 : decode cL_law 286 = .ok (.iaload, 1) := by decide +kernel
theorem dL_law_287 : decode cL_law 287 = .ok (.invokevirtual 28, 3) := by decide +kernel
theorem dL_law_290 : decode cL_law 290 = .ok (.aload_n 2, 1) := by decide +kernel
theorem dL_law_291 : decode cL_law 291 = .ok (.aload_n 0, 1) := by decide +kernel
theorem dL_law_292 : decode cL_law 292 = .ok (.iload_n 3, 1) := by decide +kernel
theorem dL_law_293 : decode cL_law 293 = .ok (.iconst 1, 1) := by decide +kernel
theorem dL_law_294 : decode cL_law 294 = .ok (.iadd, 1) := by decide +kernel
theorem dL_law_295 : decode cL_law 295 = .ok (.iaload, 1) := by decide +kernel
theorem dL_law_296 : decode cL_law 296 = .ok (.invokevirtual 31, 3) := by decide +kernel
theorem dL_law_299 : decode cL_law 299 = .ok (.if_icmp .eq 792, 3) := by decide +kernel
theorem dL_law_302 : decode cL_law 302 = .ok (.iconst 0, 1) := by decide +kernel
theorem dL_law_303 : decode cL_law 303 = .ok (.ireturn, 1) := by decide +kernel
theorem dL_law_304 : decode cL_law 304 = .ok (.aload_n 1, 1) := by decide +kernel
theorem dL_law_305 : decode cL_law 305 = .ok (.invokevirtual 32, 3) := by decide +kernel
theorem dL_law_308 : decode cL_law 308 = .ok (.aload_n 2, 1) := by decide +kernel
theorem dL_law_309 : decode cL_law 309 = .ok (.invokevirtual 36, 3) := by decide +kernel
theorem dL_law_312 : decode cL_law 312 = .ok (.if_icmp .eq 779, 3) := by decide +kernel
theorem dL_law_315 : decode cL_law 315 = .ok (.iconst 0, 1) := by decide +kernel
theorem dL_law_316 : decode cL_law 316 = .ok (.ireturn, 1) := by decide +kernel
theorem dL_law_317 : decode cL_law 317 = .ok (.aload_n 1, 1) := by decide +kernel
theorem dL_law_318 : decode cL_law 318 = .ok (.aload_n 0, 1) := by decide +kernel
theorem dL_law_319 : decode cL_law 319 = .ok (.iload_n 3, 1) := by decide +kernel
theorem dL_law_320 : decode cL_law 320 = .ok (.iconst 1, 1) := by decide +kernel
theorem dL_law_321 : decode cL_law 321 = .ok (.iadd, 1) := by decide +kernel
theorem dL_law_322 : decode cL_law 322 = .ok (.iaload, 1) := by decide +kernel
theorem dL_law_323 : decode cL_law 323 = .ok (.invokevirtual 37, 3) := by decide +kernel
theorem dL_law_326 : decode cL_law 326 = .ok (.aload_n 2, 1) := by decide +kernel
theorem dL_law_327 : decode cL_law 327 = .ok (.aload_n 0, 1) := by decide +kernel
theorem dL_law_328 : decode cL_law 328 = .ok (.iload_n 3, 1) := by decide +kernel
theorem dL_law_329 : decode cL_law 329 = .ok (.iconst 1, 1) := by decide +kernel
theorem dL_law_330 : decode cL_law 330 = .ok (.iadd, 1) := by decide +kernel
theorem dL_law_331 : decode cL_law 331 = .ok (.iaload, 1) := by decide +kernel
theorem dL_law_332 : decode cL_law 332 = .ok (.invokevirtual 40, 3) := by decide +kernel
theorem dL_law_335 : decode cL_law 335 = .ok (.if_icmp .eq 756, 3) := by decide +kernel
theorem dL_law_338 : decode cL_law 338 = .ok (.iconst 0, 1) := by decide +kernel
theorem dL_law_339 : decode cL_law 339 = .ok (.ireturn, 1) := by decide +kernel
theorem dL_law_340 : decode cL_law 340 = .ok (.aload_n 1, 1) := by decide +kernel
theorem dL_law_341 : decode cL_law 341 = .ok (.aload_n 0, 1) := by decide +kernel
theorem dL_law_342 : decode cL_law 342 = .ok (.iload_n 3, 1) := by decide +kernel
theorem dL_law_343 : decode cL_law 343 = .ok (.iconst 1, 1) := by decide +kernel
theorem dL_law_344 : decode cL_law 344 = .ok (.iadd, 1) := by decide +kernel
theorem dL_law_345 : decode cL_law 345 = .ok (.iaload, 1) := by decide +kernel
theorem dL_law_346 : decode cL_law 346 = .ok (.aload_n 0, 1) := by decide +kernel
theorem dL_law_347 : decode cL_law 347 = .ok (.iload_n 3, 1) := by decide +kernel
theorem dL_law_348 : decode cL_law 348 = .ok (.iconst 2, 1) := by decide +kernel
theorem dL_law_349 : decode cL_law 349 = .ok (.iadd, 1) := by decide +kernel
theorem dL_law_350 : decode cL_law 350 = .ok (.iaload, 1) := by decide +kernel
theorem dL_law_351 : decode cL_law 351 = .ok (.aload_n 0, 1) := by decide +kernel
theorem dL_law_352 : decode cL_law 352 = .ok (.iload_n 3, 1) := by decide +kernel
theorem dL_law_353 : decode cL_law 353 = .ok (.iconst 3, 1) := by decide +kernel
theorem dL_law_354 : decode cL_law 354 = .ok (.iadd, 1) := by decide +kernel
theorem dL_law_355 : decode cL_law 355 = .ok (.iaload, 1) := by decide +kernel
theorem dL_law_356 : decode cL_law 356 = .ok (.invokevirtual 41, 3) := by decide +kernel
theorem dL_law_359 : decode cL_law 359 = .ok (.aload_n 2, 1) := by decide +kernel
theorem dL_law_360 : decode cL_law 360 = .ok (.aload_n 0, 1) := by decide +kernel
theorem dL_law_361 : decode cL_law 361 = .ok (.iload_n 3, 1) := by decide +kernel
theorem dL_law_362 : decode cL_law 362 = .ok (.iconst 1, 1) := by decide +kernel
theorem dL_law_363 : decode cL_law 363 = .ok (.iadd, 1) := by decide +kernel
theorem dL_law_364 : decode cL_law 364 = .ok (.iaload, 1) := by decide +kernel
theorem dL_law_365 : decode cL_law 365 = .ok (.aload_n 0, 1) := by decide +kernel
theorem dL_law_366 : decode cL_law 366 = .ok (.iload_n 3, 1) := by decide +kernel
theorem dL_law_367 : decode cL_law 367 = .ok (.iconst 2, 1) := by decide +kernel
theorem dL_law_368 : decode cL_law 368 = .ok (.iadd, 1) := by decide +kernel
theorem dL_law_369 : decode cL_law 369 = .ok (.iaload, 1) := by decide +kernel
theorem dL_law_370 : decode cL_law 370 = .ok (.aload_n 0, 1) := by decide +kernel
theorem dL_law_371 : decode cL_law 371 = .ok (.iload_n 3, 1) := by decide +kernel
theorem dL_law_372 : decode cL_law 372 = .ok (.iconst 3, 1) := by decide +kernel
theorem dL_law_373 : decode cL_law 373 = .ok (.iadd, 1) := by decide +kernel
theorem dL_law_374 : decode cL_law 374 = .ok (.iaload, 1) := by decide +kernel
theorem dL_law_375 : decode cL_law 375 = .ok (.invokevirtual 45, 3) := by decide +kernel
theorem dL_law_378 : decode cL_law 378 = .ok (.if_icmp .eq 713, 3) := by decide +kernel
theorem dL_law_381 : decode cL_law 381 = .ok (.iconst 0, 1) := by decide +kernel
theorem dL_law_382 : decode cL_law 382 = .ok (.ireturn, 1) := by decide +kernel
theorem dL_law_383 : decode cL_law 383 = .ok (.aload_n 1, 1) := by decide +kernel
theorem dL_law_384 : decode cL_law 384 = .ok (.aload_n 0, 1) := by decide +kernel
theorem dL_law_385 : decode cL_law 385 = .ok (.iload_n 3, 1) := by decide +kernel
theorem dL_law_386 : decode cL_law 386 = .ok (.iconst 1, 1) := by decide +kernel
theorem dL_law_387 : decode cL_law 387 = .ok (.iadd, 1) := by decide +kernel
theorem dL_law_388 : decode cL_law 388 = .ok (.iaload, 1) := by decide +kernel
theorem dL_law_389 : decode cL_law 389 = .ok (.invokevirtual 46, 3) := by decide +kernel
theorem dL_law_392 : decode cL_law 392 = .ok (.aload_n 2, 1) := by decide +kernel
theorem dL_law_393 : decode cL_law 393 = .ok (.aload_n 0, 1) := by decide +kernel
theorem dL_law_394 : decode cL_law 394 = .ok (.iload_n 3, 1) := by decide +kernel
theorem dL_law_395 : decode cL_law 395 = .ok (.iconst 1, 1) := by decide +kernel
theorem dL_law_396 : decode cL_law 396 = .ok (.iadd, 1) := by decide +kernel
theorem dL_law_397 : decode cL_law 397 = .ok (.iaload, 1) := by decide +kernel
theorem dL_law_398 : decode cL_law 398 = .ok (.invokevirtual 49, 3) := by decide +kernel
theorem dL_law_401 : decode cL_law 401 = .ok (.if_icmp .eq 690, 3) := by decide +kernel
theorem dL_law_404 : decode cL_law 404 = .ok (.iconst 0, 1) := by decide +kernel
theorem dL_law_405 : decode cL_law 405 = .ok (.ireturn, 1) := by decide +kernel
theorem dL_law_406 : decode cL_law 406 = .ok (.aload_n 1, 1) := by decide +kernel
theorem dL_law_407 : decode cL_law 407 = .ok (.invokevirtual 50, 3) := by decide +kernel
theorem dL_law_410 : decode cL_law 410 = .ok (.aload_n 2, 1) := by decide +kernel
theorem dL_law_411 : decode cL_law 411 = .ok (.invokevirtual 54, 3) := by decide +kernel
theorem dL_law_414 : decode cL_law 414 = .ok (.if_icmp .eq 677, 3) := by decide +kernel
theorem dL_law_417 : decode cL_law 417 = .ok (.iconst 0, 1) := by decide +kernel
theorem dL_law_418 : decode cL_law 418 = .ok (.ireturn, 1) := by decide +kernel
theorem dL_law_419 : decode cL_law 419 = .ok (.aload_n 1, 1) := by decide +kernel
theorem dL_law_420 : decode cL_law 420 = .ok (.aload_n 0, 1) := by decide +kernel
theorem dL_law_421 : decode cL_law 421 = .ok (.iload_n 3, 1) := by decide +kernel
theorem dL_law_422 : decode cL_law 422 = .ok (.iconst 1, 1) := by decide +kernel
theorem dL_law_423 : decode cL_law 423 = .ok (.iadd, 1) := by decide +kernel
theorem dL_law_424 : decode cL_law 424 = .ok (.iaload, 1) := by decide +kernel
theorem dL_law_425 : decode cL_law 425 = .ok (.aload_n 0, 1) := by decide +kernel
theorem dL_law_426 : decode cL_law 426 = .ok (.iload_n 3, 1) := by decide +kernel
theorem dL_law_427 : decode cL_law 427 = .ok (.iconst 2, 1) := by decide +kernel
theorem dL_law_428 : decode cL_law 428 = .ok (.iadd, 1) := by decide +kernel
theorem dL_law_429 : decode cL_law 429 = .ok (.iaload, 1) := by decide +kernel
theorem dL_law_430 : decode cL_law 430 = .ok (.invokevirtual 55, 3) := by decide +kernel
theorem dL_law_433 : decode cL_law 433 = .ok (.aload_n 2, 1) := by decide +kernel
theorem dL_law_434 : decode cL_law 434 = .ok (.aload_n 0, 1) := by decide +kernel
theorem dL_law_435 : decode cL_law 435 = .ok (.iload_n 3, 1) := by decide +kernel
theorem dL_law_436 : decode cL_law 436 = .ok (.iconst 1, 1) := by decide +kernel
theorem dL_law_437 : decode cL_law 437 = .ok (.iadd, 1) := by decide +kernel
theorem dL_law_438 : decode cL_law 438 = .ok (.iaload, 1) := by decide +kernel
theorem dL_law_439 : decode cL_law 439 = .ok (.aload_n 0, 1) := by decide +kernel
theorem dL_law_440 : decode cL_law 440 = .ok (.iload_n 3, 1) := by decide +kernel
theorem dL_law_441 : decode cL_law 441 = .ok (.iconst 2, 1) := by decide +kernel
theorem dL_law_442 : decode cL_law 442 = .ok (.iadd, 1) := by decide +kernel
theorem dL_law_443 : decode cL_law 443 = .ok (.iaload, 1) := by decide +kernel
theorem dL_law_444 : decode cL_law 444 = .ok (.invokevirtual 59, 3) := by decide +kernel
theorem dL_law_447 : decode cL_law 447 = .ok (.if_icmp .eq 644, 3) := by decide +kernel
theorem dL_law_450 : decode cL_law 450 = .ok (.iconst 0, 1) := by decide +kernel
theorem dL_law_451 : decode cL_law 451 = .ok (.ireturn, 1) := by decide +kernel
theorem dL_law_452 : decode cL_law 452 = .ok (.aload_n 1, 1) := by decide +kernel
theorem dL_law_453 : decode cL_law 453 = .ok (.aload_n 0, 1) := by decide +kernel
theorem dL_law_454 : decode cL_law 454 = .ok (.iload_n 3, 1) := by decide +kernel
theorem dL_law_455 : decode cL_law 455 = .ok (.iconst 1, 1) := by decide +kernel
theorem dL_law_456 : decode cL_law 456 = .ok (.iadd, 1) := by decide +kernel
theorem dL_law_457 : decode cL_law 457 = .ok (.iaload, 1) := by decide +kernel
theorem dL_law_458 : decode cL_law 458 = .ok (.aload_n 0, 1) := by decide +kernel
theorem dL_law_459 : decode cL_law 459 = .ok (.iload_n 3, 1) := by decide +kernel
theorem dL_law_460 : decode cL_law 460 = .ok (.iconst 2, 1) := by decide +kernel
theorem dL_law_461 : decode cL_law 461 = .ok (.iadd, 1) := by decide +kernel
theorem dL_law_462 : decode cL_law 462 = .ok (.iaload, 1) := by decide +kernel
theorem dL_law_463 : decode cL_law 463 = .ok (.aload_n 0, 1) := by decide +kernel
theorem dL_law_464 : decode cL_law 464 = .ok (.iload_n 3, 1) := by decide +kernel
theorem dL_law_465 : decode cL_law 465 = .ok (.iconst 3, 1) := by decide +kernel
theorem dL_law_466 : decode cL_law 466 = .ok (.iadd, 1) := by decide +kernel
theorem dL_law_467 : decode cL_law 467 = .ok (.iaload, 1) := by decide +kernel
theorem dL_law_468 : decode cL_law 468 = .ok (.aload_n 0, 1) := by decide +kernel
theorem dL_law_469 : decode cL_law 469 = .ok (.iload_n 3, 1) := by decide +kernel
theorem dL_law_470 : decode cL_law 470 = .ok (.iconst 4, 1) := by decide +kernel
theorem dL_law_471 : decode cL_law 471 = .ok (.iadd, 1) := by decide +kernel
theorem dL_law_472 : decode cL_law 472 = .ok (.iaload, 1) := by decide +kernel
theorem dL_law_473 : decode cL_law 473 = .ok (.aload_n 0, 1) := by decide +kernel
theorem dL_law_474 : decode cL_law 474 = .ok (.iload_n 3, 1) := by decide +kernel
theorem dL_law_475 : decode cL_law 475 = .ok (.iconst 5, 1) := by decide +kernel
theorem dL_law_476 : decode cL_law 476 = .ok (.iadd, 1) := by decide +kernel
theorem dL_law_477 : decode cL_law 477 = .ok (.iaload, 1) := by decide +kernel
theorem dL_law_478 : decode cL_law 478 = .ok (.invokevirtual 60, 3) := by decide +kernel
theorem dL_law_481 : decode cL_law 481 = .ok (.aload_n 2, 1) := by decide +kernel
theorem dL_law_482 : decode cL_law 482 = .ok (.aload_n 0, 1) := by decide +kernel
theorem dL_law_483 : decode cL_law 483 = .ok (.iload_n 3, 1) := by decide +kernel
theorem dL_law_484 : decode cL_law 484 = .ok (.iconst 1, 1) := by decide +kernel
theorem dL_law_485 : decode cL_law 485 = .ok (.iadd, 1) := by decide +kernel
theorem dL_law_486 : decode cL_law 486 = .ok (.iaload, 1) := by decide +kernel
theorem dL_law_487 : decode cL_law 487 = .ok (.aload_n 0, 1) := by decide +kernel
theorem dL_law_488 : decode cL_law 488 = .ok (.iload_n 3, 1) := by decide +kernel
theorem dL_law_489 : decode cL_law 489 = .ok (.iconst 2, 1) := by decide +kernel
theorem dL_law_490 : decode cL_law 490 = .ok (.iadd, 1) := by decide +kernel
theorem dL_law_491 : decode cL_law 491 = .ok (.iaload, 1) := by decide +kernel
theorem dL_law_492 : decode cL_law 492 = .ok (.aload_n 0, 1) := by decide +kernel
theorem dL_law_493 : decode cL_law 493 = .ok (.iload_n 3, 1) := by decide +kernel
theorem dL_law_494 : decode cL_law 494 = .ok (.iconst 3, 1) := by decide +kernel
theorem dL_law_495 : decode cL_law 495 = .ok (.iadd, 1) := by decide +kernel
theorem dL_law_496 : decode cL_law 496 = .ok (.iaload, 1) := by decide +kernel
theorem dL_law_497 : decode cL_law 497 = .ok (.aload_n 0, 1) := by decide +kernel
theorem dL_law_498 : decode cL_law 498 = .ok (.iload_n 3, 1) := by decide +kernel
theorem dL_law_499 : decode cL_law 499 = .ok (.iconst 4, 1) := by decide +kernel
theorem dL_law_500 : decode cL_law 500 = .ok (.iadd, 1) := by decide +kernel
theorem dL_law_501 : decode cL_law 501 = .ok (.iaload, 1) := by decide +kernel
theorem dL_law_502 : decode cL_law 502 = .ok (.aload_n 0, 1) := by decide +kernel
theorem dL_law_503 : decode cL_law 503 = .ok (.iload_n 3, 1) := by decide +kernel
theorem dL_law_504 : decode cL_law 504 = .ok (.iconst 5, 1) := by decide +kernel
theorem dL_law_505 : decode cL_law 505 = .ok (.iadd, 1) := by decide +kernel
theorem dL_law_506 : decode cL_law 506 = .ok (.iaload, 1) := by decide +kernel
theorem dL_law_507 : decode cL_law 507 = .ok (.invokevirtual 64, 3) := by decide +kernel
theorem dL_law_510 : decode cL_law 510 = .ok (.if_icmp .eq 581, 3) := by decide +kernel
theorem dL_law_513 : decode cL_law 513 = .ok (.iconst 0, 1) := by decide +kernel
theorem dL_law_514 : decode cL_law 514 = .ok (.ireturn, 1) := by decide +kernel
theorem dL_law_515 : decode cL_law 515 = .ok (.aload_n 1, 1) := by decide +kernel
theorem dL_law_516 : decode cL_law 516 = .ok (.aload_n 0, 1) := by decide +kernel
theorem dL_law_517 : decode cL_law 517 = .ok (.iload_n 3, 1) := by decide +kernel
theorem dL_law_518 : decode cL_law 518 = .ok (.iconst 1, 1) := by decide +kernel
theorem dL_law_519 : decode cL_law 519 = .ok (.iadd, 1) := by decide +kernel
theorem dL_law_520 : decode cL_law 520 = .ok (.iaload, 1) := by decide +kernel
theorem dL_law_521 : decode cL_law 521 = .ok (.aload_n 0, 1) := by decide +kernel
theorem dL_law_522 : decode cL_law 522 = .ok (.iload_n 3, 1) := by decide +kernel
theorem dL_law_523 : decode cL_law 523 = .ok (.iconst 2, 1) := by decide +kernel
theorem dL_law_524 : decode cL_law 524 = .ok (.iadd, 1) := by decide +kernel
theorem dL_law_525 : decode cL_law 525 = .ok (.iaload, 1) := by decide +kernel
theorem dL_law_526 : decode cL_law 526 = .ok (.invokevirtual 65, 3) := by decide +kernel
theorem dL_law_529 : decode cL_law 529 = .ok (.aload_n 2, 1) := by decide +kernel
theorem dL_law_530 : decode cL_law 530 = .ok (.aload_n 0, 1) := by decide +kernel
theorem dL_law_531 : decode cL_law 531 = .ok (.iload_n 3, 1) := by decide +kernel
theorem dL_law_532 : decode cL_law 532 = .ok (.iconst 1, 1) := by decide +kernel
theorem dL_law_533 : decode cL_law 533 = .ok (.iadd, 1) := by decide +kernel
theorem dL_law_534 : decode cL_law 534 = .ok (.iaload, 1) := by decide +kernel
theorem dL_law_535 : decode cL_law 535 = .ok (.aload_n 0, 1) := by decide +kernel
theorem dL_law_536 : decode cL_law 536 = .ok (.iload_n 3, 1) := by decide +kernel
theorem dL_law_537 : decode cL_law 537 = .ok (.iconst 2, 1) := by decide +kernel
theorem dL_law_538 : decode cL_law 538 = .ok (.iadd, 1) := by decide +kernel
theorem dL_law_539 : decode cL_law 539 = .ok (.iaload, 1) := by decide +kernel
theorem dL_law_540 : decode cL_law 540 = .ok (.invokevirtual 68, 3) := by decide +kernel
theorem dL_law_543 : decode cL_law 543 = .ok (.if_icmp .eq 548, 3) := by decide +kernel
theorem dL_law_546 : decode cL_law 546 = .ok (.iconst 0, 1) := by decide +kernel
theorem dL_law_547 : decode cL_law 547 = .ok (.ireturn, 1) := by decide +kernel
theorem dL_law_548 : decode cL_law 548 = .ok (.aload_n 1, 1) := by decide +kernel
theorem dL_law_549 : decode cL_law 549 = .ok (.aload_n 0, 1) := by decide +kernel
theorem dL_law_550 : decode cL_law 550 = .ok (.iload_n 3, 1) := by decide +kernel
theorem dL_law_551 : decode cL_law 551 = .ok (.iconst 1, 1) := by decide +kernel
theorem dL_law_552 : decode cL_law 552 = .ok (.iadd, 1) := by decide +kernel
theorem dL_law_553 : decode cL_law 553 = .ok (.iaload, 1) := by decide +kernel
theorem dL_law_554 : decode cL_law 554 = .ok (.aload_n 0, 1) := by decide +kernel
theorem dL_law_555 : decode cL_law 555 = .ok (.iload_n 3, 1) := by decide +kernel
theorem dL_law_556 : decode cL_law 556 = .ok (.iconst 2, 1) := by decide +kernel
theorem dL_law_557 : decode cL_law 557 = .ok (.iadd, 1) := by decide +kernel
theorem dL_law_558 : decode cL_law 558 = .ok (.iaload, 1) := by decide +kernel
theorem dL_law_559 : decode cL_law 559 = .ok (.invokevirtual 69, 3) := by decide +kernel
theorem dL_law_562 : decode cL_law 562 = .ok (.aload_n 2, 1) := by decide +kernel
theorem dL_law_563 : decode cL_law 563 = .ok (.aload_n 0, 1) := by decide +kernel
theorem dL_law_564 : decode cL_law 564 = .ok (.iload_n 3, 1) := by decide +kernel
theorem dL_law_565 : decode cL_law 565 = .ok (.iconst 1, 1) := by decide +kernel
theorem dL_law_566 : decode cL_law 566 = .ok (.iadd, 1) := by decide +kernel
theorem dL_law_567 : decode cL_law 567 = .ok (.iaload, 1) := by decide +kernel
theorem dL_law_568 : decode cL_law 568 = .ok (.aload_n 0, 1) := by decide +kernel
theorem dL_law_569 : decode cL_law 569 = .ok (.iload_n 3, 1) := by decide +kernel
theorem dL_law_570 : decode cL_law 570 = .ok (.iconst 2, 1) := by decide +kernel
theorem dL_law_571 : decode cL_law 571 = .ok (.iadd, 1) := by decide +kernel
theorem dL_law_572 : decode cL_law 572 = .ok (.iaload, 1) := by decide +kernel
theorem dL_law_573 : decode cL_law 573 = .ok (.invokevirtual 73, 3) := by decide +kernel
theorem dL_law_576 : decode cL_law 576 = .ok (.if_icmp .eq 515, 3) := by decide +kernel
theorem dL_law_579 : decode cL_law 579 = .ok (.iconst 0, 1) := by decide +kernel
theorem dL_law_580 : decode cL_law 580 = .ok (.ireturn, 1) := by decide +kernel
theorem dL_law_581 : decode cL_law 581 = .ok (.aload_n 1, 1) := by decide +kernel
theorem dL_law_582 : decode cL_law 582 = .ok (.aload_n 0, 1) := by decide +kernel
theorem dL_law_583 : decode cL_law 583 = .ok (.iload_n 3, 1) := by decide +kernel
theorem dL_law_584 : decode cL_law 584 = .ok (.iconst 1, 1) := by decide +kernel
theorem dL_law_585 : decode cL_law 585 = .ok (.iadd, 1) := by decide +kernel
theorem dL_law_586 : decode cL_law 586 = .ok (.iaload, 1) := by decide +kernel
theorem dL_law_587 : decode cL_law 587 = .ok (.aload_n 0, 1) := by decide +kernel
theorem dL_law_588 : decode cL_law 588 = .ok (.iload_n 3, 1) := by decide +kernel
theorem dL_law_589 : decode cL_law 589 = .ok (.iconst 2, 1) := by decide +kernel
theorem dL_law_590 : decode cL_law 590 = .ok (.iadd, 1) := by decide +kernel
theorem dL_law_591 : decode cL_law 591 = .ok (.iaload, 1) := by decide +kernel
theorem dL_law_592 : decode cL_law 592 = .ok (.invokevirtual 74, 3) := by decide +kernel
theorem dL_law_595 : decode cL_law 595 = .ok (.aload_n 2, 1) := by decide +kernel
theorem dL_law_596 : decode cL_law 596 = .ok (.aload_n 0, 1) := by decide +kernel
theorem dL_law_597 : decode cL_law 597 = .ok (.iload_n 3, 1) := by decide +kernel
theorem dL_law_598 : decode cL_law 598 = .ok (.iconst 1, 1) := by decide +kernel
theorem dL_law_599 : decode cL_law 599 = .ok (.iadd, 1) := by decide +kernel
theorem dL_law_600 : decode cL_law 600 = .ok (.iaload, 1) := by decide +kernel
theorem dL_law_601 : decode cL_law 601 = .ok (.aload_n 0, 1) := by decide +kernel
theorem dL_law_602 : decode cL_law 602 = .ok (.iload_n 3, 1) := by decide +kernel
theorem dL_law_603 : decode cL_law 603 = .ok (.iconst 2, 1) := by decide +kernel
theorem dL_law_604 : decode cL_law 604 = .ok (.iadd, 1) := by decide +kernel
theorem dL_law_605 : decode cL_law 605 = .ok (.iaload, 1) := by decide +kernel
theorem dL_law_606 : decode cL_law 606 = .ok (.invokevirtual 77, 3) := by decide +kernel
theorem dL_law_609 : decode cL_law 609 = .ok (.if_icmp .eq 482, 3) := by decide +kernel
theorem dL_law_612 : decode cL_law 612 = .ok (.iconst 0, 1) := by decide +kernel
theorem dL_law_613 : decode cL_law 613 = .ok (.ireturn, 1) := by decide +kernel
theorem dL_law_614 : decode cL_law 614 = .ok (.aload_n 1, 1) := by decide +kernel
theorem dL_law_615 : decode cL_law 615 = .ok (.aload_n 0, 1) := by decide +kernel
theorem dL_law_616 : decode cL_law 616 = .ok (.iload_n 3, 1) := by decide +kernel
theorem dL_law_617 : decode cL_law 617 = .ok (.iconst 1, 1) := by decide +kernel
theorem dL_law_618 : decode cL_law 618 = .ok (.iadd, 1) := by decide +kernel
theorem dL_law_619 : decode cL_law 619 = .ok (.iaload, 1) := by decide +kernel
theorem dL_law_620 : decode cL_law 620 = .ok (.aload_n 0, 1) := by decide +kernel
theorem dL_law_621 : decode cL_law 621 = .ok (.iload_n 3, 1) := by decide +kernel
theorem dL_law_622 : decode cL_law 622 = .ok (.iconst 2, 1) := by decide +kernel
theorem dL_law_623 : decode cL_law 623 = .ok (.iadd, 1) := by decide +kernel
theorem dL_law_624 : decode cL_law 624 = .ok (.iaload, 1) := by decide +kernel
theorem dL_law_625 : decode cL_law 625 = .ok (.invokevirtual 78, 3) := by decide +kernel
theorem dL_law_628 : decode cL_law 628 = .ok (.aload_n 2, 1) := by decide +kernel
theorem dL_law_629 : decode cL_law 629 = .ok (.aload_n 0, 1) := by decide +kernel
theorem dL_law_630 : decode cL_law 630 = .ok (.iload_n 3, 1) := by decide +kernel
theorem dL_law_631 : decode cL_law 631 = .ok (.iconst 1, 1) := by decide +kernel
theorem dL_law_632 : decode cL_law 632 = .ok (.iadd, 1) := by decide +kernel
theorem dL_law_633 : decode cL_law 633 = .ok (.iaload, 1) := by decide +kernel
theorem dL_law_634 : decode cL_law 634 = .ok (.aload_n 0, 1) := by decide +kernel
theorem dL_law_635 : decode cL_law 635 = .ok (.iload_n 3, 1) := by decide +kernel
theorem dL_law_636 : decode cL_law 636 = .ok (.iconst 2, 1) := by decide +kernel
theorem dL_law_637 : decode cL_law 637 = .ok (.iadd, 1) := by decide +kernel
theorem dL_law_638 : decode cL_law 638 = .ok (.iaload, 1) := by decide +kernel
theorem dL_law_639 : decode cL_law 639 = .ok (.invokevirtual 81, 3) := by decide +kernel
theorem dL_law_642 : decode cL_law 642 = .ok (.if_icmp .eq 449, 3) := by decide +kernel
theorem dL_law_645 : decode cL_law 645 = .ok (.iconst 0, 1) := by decide +kernel
theorem dL_law_646 : decode cL_law 646 = .ok (.ireturn, 1) := by decide +kernel
theorem dL_law_647 : decode cL_law 647 = .ok (.aload_n 1, 1) := by decide +kernel
theorem dL_law_648 : decode cL_law 648 = .ok (.aload_n 0, 1) := by decide +kernel
theorem dL_law_649 : decode cL_law 649 = .ok (.iload_n 3, 1) := by decide +kernel
theorem dL_law_650 : decode cL_law 650 = .ok (.iconst 1, 1) := by decide +kernel
theorem dL_law_651 : decode cL_law 651 = .ok (.iadd, 1) := by decide +kernel
theorem dL_law_652 : decode cL_law 652 = .ok (.iaload, 1) := by decide +kernel
theorem dL_law_653 : decode cL_law 653 = .ok (.aload_n 0, 1) := by decide +kernel
theorem dL_law_654 : decode cL_law 654 = .ok (.iload_n 3, 1) := by decide +kernel
theorem dL_law_655 : decode cL_law 655 = .ok (.iconst 2, 1) := by decide +kernel
theorem dL_law_656 : decode cL_law 656 = .ok (.iadd, 1) := by decide +kernel
theorem dL_law_657 : decode cL_law 657 = .ok (.iaload, 1) := by decide +kernel
theorem dL_law_658 : decode cL_law 658 = .ok (.invokevirtual 82, 3) := by decide +kernel
theorem dL_law_661 : decode cL_law 661 = .ok (.aload_n 2, 1) := by decide +kernel
theorem dL_law_662 : decode cL_law 662 = .ok (.aload_n 0, 1) := by decide +kernel
theorem dL_law_663 : decode cL_law 663 = .ok (.iload_n 3, 1) := by decide +kernel
theorem dL_law_664 : decode cL_law 664 = .ok (.iconst 1, 1) := by decide +kernel
theorem dL_law_665 : decode cL_law 665 = .ok (.iadd, 1) := by decide +kernel
theorem dL_law_666 : decode cL_law 666 = .ok (.iaload, 1) := by decide +kernel
theorem dL_law_667 : decode cL_law 667 = .ok (.aload_n 0, 1) := by decide +kernel
theorem dL_law_668 : decode cL_law 668 = .ok (.iload_n 3, 1) := by decide +kernel
theorem dL_law_669 : decode cL_law 669 = .ok (.iconst 2, 1) := by decide +kernel
theorem dL_law_670 : decode cL_law 670 = .ok (.iadd, 1) := by decide +kernel
theorem dL_law_671 : decode cL_law 671 = .ok (.iaload, 1) := by decide +kernel
theorem dL_law_672 : decode cL_law 672 = .ok (.invokevirtual 85, 3) := by decide +kernel
theorem dL_law_675 : decode cL_law 675 = .ok (.if_icmp .eq 416, 3) := by decide +kernel
theorem dL_law_678 : decode cL_law 678 = .ok (.iconst 0, 1) := by decide +kernel
theorem dL_law_679 : decode cL_law 679 = .ok (.ireturn, 1) := by decide +kernel
theorem dL_law_680 : decode cL_law 680 = .ok (.aload_n 1, 1) := by decide +kernel
theorem dL_law_681 : decode cL_law 681 = .ok (.invokevirtual 86, 3) := by decide +kernel
theorem dL_law_684 : decode cL_law 684 = .ok (.aload_n 2, 1) := by decide +kernel
theorem dL_law_685 : decode cL_law 685 = .ok (.invokevirtual 89, 3) := by decide +kernel
theorem dL_law_688 : decode cL_law 688 = .ok (.if_icmp .eq 403, 3) := by decide +kernel
theorem dL_law_691 : decode cL_law 691 = .ok (.iconst 0, 1) := by decide +kernel
theorem dL_law_692 : decode cL_law 692 = .ok (.ireturn, 1) := by decide +kernel
theorem dL_law_693 : decode cL_law 693 = .ok (.aload_n 1, 1) := by decide +kernel
theorem dL_law_694 : decode cL_law 694 = .ok (.aload_n 0, 1) := by decide +kernel
theorem dL_law_695 : decode cL_law 695 = .ok (.iload_n 3, 1) := by decide +kernel
theorem dL_law_696 : decode cL_law 696 = .ok (.iconst 1, 1) := by decide +kernel
theorem dL_law_697 : decode cL_law 697 = .ok (.iadd, 1) := by decide +kernel
theorem dL_law_698 : decode cL_law 698 = .ok (.iaload, 1) := by decide +kernel
theorem dL_law_699 : decode cL_law 699 = .ok (.aload_n 0, 1) := by decide +kernel
theorem dL_law_700 : decode cL_law 700 = .ok (.iload_n 3, 1) := by decide +kernel
theorem dL_law_701 : decode cL_law 701 = .ok (.iconst 2, 1) := by decide +kernel
theorem dL_law_702 : decode cL_law 702 = .ok (.iadd, 1) := by decide +kernel
theorem dL_law_703 : decode cL_law 703 = .ok (.iaload, 1) := by decide +kernel
theorem dL_law_704 : decode cL_law 704 = .ok (.invokevirtual 90, 3) := by decide +kernel
theorem dL_law_707 : decode cL_law 707 = .ok (.aload_n 2, 1) := by decide +kernel
theorem dL_law_708 : decode cL_law 708 = .ok (.aload_n 0, 1) := by decide +kernel
theorem dL_law_709 : decode cL_law 709 = .ok (.iload_n 3, 1) := by decide +kernel
theorem dL_law_710 : decode cL_law 710 = .ok (.iconst 1, 1) := by decide +kernel
theorem dL_law_711 : decode cL_law 711 = .ok (.iadd, 1) := by decide +kernel
theorem dL_law_712 : decode cL_law 712 = .ok (.iaload, 1) := by decide +kernel
theorem dL_law_713 : decode cL_law 713 = .ok (.aload_n 0, 1) := by decide +kernel
theorem dL_law_714 : decode cL_law 714 = .ok (.iload_n 3, 1) := by decide +kernel
theorem dL_law_715 : decode cL_law 715 = .ok (.iconst 2, 1) := by decide +kernel
theorem dL_law_716 : decode cL_law 716 = .ok (.iadd, 1) := by decide +kernel
theorem dL_law_717 : decode cL_law 717 = .ok (.iaload, 1) := by decide +kernel
theorem dL_law_718 : decode cL_law 718 = .ok (.invokevirtual 93, 3) := by decide +kernel
theorem dL_law_721 : decode cL_law 721 = .ok (.if_icmp .eq 370, 3) := by decide +kernel
theorem dL_law_724 : decode cL_law 724 = .ok (.iconst 0, 1) := by decide +kernel
theorem dL_law_725 : decode cL_law 725 = .ok (.ireturn, 1) := by decide +kernel
theorem dL_law_726 : decode cL_law 726 = .ok (.aload_n 1, 1) := by decide +kernel
theorem dL_law_727 : decode cL_law 727 = .ok (.aload_n 0, 1) := by decide +kernel
theorem dL_law_728 : decode cL_law 728 = .ok (.iload_n 3, 1) := by decide +kernel
theorem dL_law_729 : decode cL_law 729 = .ok (.iconst 1, 1) := by decide +kernel
theorem dL_law_730 : decode cL_law 730 = .ok (.iadd, 1) := by decide +kernel
theorem dL_law_731 : decode cL_law 731 = .ok (.iaload, 1) := by decide +kernel
theorem dL_law_732 : decode cL_law 732 = .ok (.invokevirtual 94, 3) := by decide +kernel
theorem dL_law_735 : decode cL_law 735 = .ok (.aload_n 2, 1) := by decide +kernel
theorem dL_law_736 : decode cL_law 736 = .ok (.aload_n 0, 1) := by decide +kernel
theorem dL_law_737 : decode cL_law 737 = .ok (.iload_n 3, 1) := by decide +kernel
theorem dL_law_738 : decode cL_law 738 = .ok (.iconst 1, 1) := by decide +kernel
theorem dL_law_739 : decode cL_law 739 = .ok (.iadd, 1) := by decide +kernel
theorem dL_law_740 : decode cL_law 740 = .ok (.iaload, 1) := by decide +kernel
theorem dL_law_741 : decode cL_law 741 = .ok (.invokevirtual 97, 3) := by decide +kernel
theorem dL_law_744 : decode cL_law 744 = .ok (.if_icmp .eq 347, 3) := by decide +kernel
theorem dL_law_747 : decode cL_law 747 = .ok (.iconst 0, 1) := by decide +kernel
theorem dL_law_748 : decode cL_law 748 = .ok (.ireturn, 1) := by decide +kernel
theorem dL_law_749 : decode cL_law 749 = .ok (.aload_n 1, 1) := by decide +kernel
theorem dL_law_750 : decode cL_law 750 = .ok (.aload_n 0, 1) := by decide +kernel
theorem dL_law_751 : decode cL_law 751 = .ok (.iload_n 3, 1) := by decide +kernel
theorem dL_law_752 : decode cL_law 752 = .ok (.iconst 1, 1) := by decide +kernel
theorem dL_law_753 : decode cL_law 753 = .ok (.iadd, 1) := by decide +kernel
theorem dL_law_754 : decode cL_law 754 = .ok (.iaload, 1) := by decide +kernel
theorem dL_law_755 : decode cL_law 755 = .ok (.aload_n 0, 1) := by decide +kernel
theorem dL_law_756 : decode cL_law 756 = .ok (.iload_n 3, 1) := by decide +kernel
theorem dL_law_757 : decode cL_law 757 = .ok (.iconst 2, 1) := by decide +kernel
theorem dL_law_758 : decode cL_law 758 = .ok (.iadd, 1) := by decide +kernel
theorem dL_law_759 : decode cL_law 759 = .ok (.iaload, 1) := by decide +kernel
theorem dL_law_760 : decode cL_law 760 = .ok (.invokevirtual 98, 3) := by decide +kernel
theorem dL_law_763 : decode cL_law 763 = .ok (.aload_n 2, 1) := by decide +kernel
theorem dL_law_764 : decode cL_law 764 = .ok (.aload_n 0, 1) := by decide +kernel
theorem dL_law_765 : decode cL_law 765 = .ok (.iload_n 3, 1) := by decide +kernel
theorem dL_law_766 : decode cL_law 766 = .ok (.iconst 1, 1) := by decide +kernel
theorem dL_law_767 : decode cL_law 767 = .ok (.iadd, 1) := by decide +kernel
theorem dL_law_768 : decode cL_law 768 = .ok (.iaload, 1) := by decide +kernel
theorem dL_law_769 : decode cL_law 769 = .ok (.aload_n 0, 1) := by decide +kernel
theorem dL_law_770 : decode cL_law 770 = .ok (.iload_n 3, 1) := by decide +kernel
theorem dL_law_771 : decode cL_law 771 = .ok (.iconst 2, 1) := by decide +kernel
theorem dL_law_772 : decode cL_law 772 = .ok (.iadd, 1) := by decide +kernel
theorem dL_law_773 : decode cL_law 773 = .ok (.iaload, 1) := by decide +kernel
theorem dL_law_774 : decode cL_law 774 = .ok (.invokevirtual 101, 3) := by decide +kernel
theorem dL_law_777 : decode cL_law 777 = .ok (.if_icmp .eq 314, 3) := by decide +kernel
theorem dL_law_780 : decode cL_law 780 = .ok (.iconst 0, 1) := by decide +kernel
theorem dL_law_781 : decode cL_law 781 = .ok (.ireturn, 1) := by decide +kernel
theorem dL_law_782 : decode cL_law 782 = .ok (.aload_n 1, 1) := by decide +kernel
theorem dL_law_783 : decode cL_law 783 = .ok (.aload_n 0, 1) := by decide +kernel
theorem dL_law_784 : decode cL_law 784 = .ok (.iload_n 3, 1) := by decide +kernel
theorem dL_law_785 : decode cL_law 785 = .ok (.iconst 1, 1) := by decide +kernel
theorem dL_law_786 : decode cL_law 786 = .ok (.iadd, 1) := by decide +kernel
theorem dL_law_787 : decode cL_law 787 = .ok (.iaload, 1) := by decide +kernel
theorem dL_law_788 : decode cL_law 788 = .ok (.aload_n 0, 1) := by decide +kernel
theorem dL_law_789 : decode cL_law 789 = .ok (.iload_n 3, 1) := by decide +kernel
theorem dL_law_790 : decode cL_law 790 = .ok (.iconst 2, 1) := by decide +kernel
theorem dL_law_791 : decode cL_law 791 = .ok (.iadd, 1) := by decide +kernel
theorem dL_law_792 : decode cL_law 792 = .ok (.iaload, 1) := by decide +kernel
theorem dL_law_793 : decode cL_law 793 = .ok (.invokevirtual 102, 3) := by decide +kernel
theorem dL_law_796 : decode cL_law 796 = .ok (.aload_n 2, 1) := by decide +kernel
theorem dL_law_797 : decode cL_law 797 = .ok (.aload_n 0, 1) := by decide +kernel
theorem dL_law_798 : decode cL_law 798 = .ok (.iload_n 3, 1) := by decide +kernel
theorem dL_law_799 : decode cL_law 799 = .ok (.iconst 1, 1) := by decide +kernel
theorem dL_law_800 : decode cL_law 800 = .ok (.iadd, 1) := by decide +kernel
theorem dL_law_801 : decode cL_law 801 = .ok (.iaload, 1) := by decide +kernel
theorem dL_law_802 : decode cL_law 802 = .ok (.aload_n 0, 1) := by decide +kernel
theorem dL_law_803 : decode cL_law 803 = .ok (.iload_n 3, 1) := by decide +kernel
theorem dL_law_804 : decode cL_law 804 = .ok (.iconst 2, 1) := by decide +kernel
theorem dL_law_805 : decode cL_law 805 = .ok (.iadd, 1) := by decide +kernel
theorem dL_law_806 : decode cL_law 806 = .ok (.iaload, 1) := by decide +kernel
theorem dL_law_807 : decode cL_law 807 = .ok (.invokevirtual 105, 3) := by decide +kernel
theorem dL_law_810 : decode cL_law 810 = .ok (.if_icmp .eq 281, 3) := by decide +kernel
theorem dL_law_813 : decode cL_law 813 = .ok (.iconst 0, 1) := by decide +kernel
theorem dL_law_814 : decode cL_law 814 = .ok (.ireturn, 1) := by decide +kernel
theorem dL_law_815 : decode cL_law 815 = .ok (.aload_n 1, 1) := by decide +kernel
theorem dL_law_816 : decode cL_law 816 = .ok (.aload_n 0, 1) := by decide +kernel
theorem dL_law_817 : decode cL_law 817 = .ok (.iload_n 3, 1) := by decide +kernel
theorem dL_law_818 : decode cL_law 818 = .ok (.iconst 1, 1) := by decide +kernel
theorem dL_law_819 : decode cL_law 819 = .ok (.iadd, 1) := by decide +kernel
theorem dL_law_820 : decode cL_law 820 = .ok (.iaload, 1) := by decide +kernel
theorem dL_law_821 : decode cL_law 821 = .ok (.aload_n 0, 1) := by decide +kernel
theorem dL_law_822 : decode cL_law 822 = .ok (.iload_n 3, 1) := by decide +kernel
theorem dL_law_823 : decode cL_law 823 = .ok (.iconst 2, 1) := by decide +kernel
theorem dL_law_824 : decode cL_law 824 = .ok (.iadd, 1) := by decide +kernel
theorem dL_law_825 : decode cL_law 825 = .ok (.iaload, 1) := by decide +kernel
theorem dL_law_826 : decode cL_law 826 = .ok (.invokevirtual 106, 3) := by decide +kernel
theorem dL_law_829 : decode cL_law 829 = .ok (.aload_n 2, 1) := by decide +kernel
theorem dL_law_830 : decode cL_law 830 = .ok (.aload_n 0, 1) := by decide +kernel
theorem dL_law_831 : decode cL_law 831 = .ok (.iload_n 3, 1) := by decide +kernel
theorem dL_law_832 : decode cL_law 832 = .ok (.iconst 1, 1) := by decide +kernel
theorem dL_law_833 : decode cL_law 833 = .ok (.iadd, 1) := by decide +kernel
theorem dL_law_834 : decode cL_law 834 = .ok (.iaload, 1) := by decide +kernel
theorem dL_law_835 : decode cL_law 835 = .ok (.aload_n 0, 1) := by decide +kernel
theorem dL_law_836 : decode cL_law 836 = .ok (.iload_n 3, 1) := by decide +kernel
theorem dL_law_837 : decode cL_law 837 = .ok (.iconst 2, 1) := by decide +kernel
theorem dL_law_838 : decode cL_law 838 = .ok (.iadd, 1) := by decide +kernel
theorem dL_law_839 : decode cL_law 839 = .ok (.iaload, 1) := by decide +kernel
theorem dL_law_840 : decode cL_law 840 = .ok (.invokevirtual 109, 3) := by decide +kernel
theorem dL_law_843 : decode cL_law 843 = .ok (.if_icmp .eq 248, 3) := by decide +kernel
theorem dL_law_846 : decode cL_law 846 = .ok (.iconst 0, 1) := by decide +kernel
theorem dL_law_847 : decode cL_law 847 = .ok (.ireturn, 1) := by decide +kernel
theorem dL_law_848 : decode cL_law 848 = .ok (.aload_n 1, 1) := by decide +kernel
theorem dL_law_849 : decode cL_law 849 = .ok (.aload_n 0, 1) := by decide +kernel
theorem dL_law_850 : decode cL_law 850 = .ok (.iload_n 3, 1) := by decide +kernel
theorem dL_law_851 : decode cL_law 851 = .ok (.iconst 1, 1) := by decide +kernel
theorem dL_law_852 : decode cL_law 852 = .ok (.iadd, 1) := by decide +kernel
theorem dL_law_853 : decode cL_law 853 = .ok (.iaload, 1) := by decide +kernel
theorem dL_law_854 : decode cL_law 854 = .ok (.aload_n 0, 1) := by decide +kernel
theorem dL_law_855 : decode cL_law 855 = .ok (.iload_n 3, 1) := by decide +kernel
theorem dL_law_856 : decode cL_law 856 = .ok (.iconst 2, 1) := by decide +kernel
theorem dL_law_857 : decode cL_law 857 = .ok (.iadd, 1) := by decide +kernel
theorem dL_law_858 : decode cL_law 858 = .ok (.iaload, 1) := by decide +kernel
theorem dL_law_859 : decode cL_law 859 = .ok (.invokevirtual 110, 3) := by decide +kernel
theorem dL_law_862 : decode cL_law 862 = .ok (.aload_n 2, 1) := by decide +kernel
theorem dL_law_863 : decode cL_law 863 = .ok (.aload_n 0, 1) := by decide +kernel
theorem dL_law_864 : decode cL_law 864 = .ok (.iload_n 3, 1) := by decide +kernel
theorem dL_law_865 : decode cL_law 865 = .ok (.iconst 1, 1) := by decide +kernel
theorem dL_law_866 : decode cL_law 866 = .ok (.iadd, 1) := by decide +kernel
theorem dL_law_867 : decode cL_law 867 = .ok (.iaload, 1) := by decide +kernel
theorem dL_law_868 : decode cL_law 868 = .ok (.aload_n 0, 1) := by decide +kernel
theorem dL_law_869 : decode cL_law 869 = .ok (.iload_n 3, 1) := by decide +kernel
theorem dL_law_870 : decode cL_law 870 = .ok (.iconst 2, 1) := by decide +kernel
theorem dL_law_871 : decode cL_law 871 = .ok (.iadd, 1) := by decide +kernel
theorem dL_law_872 : decode cL_law 872 = .ok (.iaload, 1) := by decide +kernel
theorem dL_law_873 : decode cL_law 873 = .ok (.invokevirtual 113, 3) := by decide +kernel
theorem dL_law_876 : decode cL_law 876 = .ok (.if_icmp .eq 215, 3) := by decide +kernel
theorem dL_law_879 : decode cL_law 879 = .ok (.iconst 0, 1) := by decide +kernel
theorem dL_law_880 : decode cL_law 880 = .ok (.ireturn, 1) := by decide +kernel
theorem dL_law_881 : decode cL_law 881 = .ok (.aload_n 1, 1) := by decide +kernel
theorem dL_law_882 : decode cL_law 882 = .ok (.invokevirtual 114, 3) := by decide +kernel
theorem dL_law_885 : decode cL_law 885 = .ok (.aload_n 2, 1) := by decide +kernel
theorem dL_law_886 : decode cL_law 886 = .ok (.invokevirtual 117, 3) := by decide +kernel
theorem dL_law_889 : decode cL_law 889 = .ok (.if_icmp .eq 202, 3) := by decide +kernel
theorem dL_law_892 : decode cL_law 892 = .ok (.iconst 0, 1) := by decide +kernel
theorem dL_law_893 : decode cL_law 893 = .ok (.ireturn, 1) := by decide +kernel
theorem dL_law_894 : decode cL_law 894 = .ok (.aload_n 1, 1) := by decide +kernel
theorem dL_law_895 : decode cL_law 895 = .ok (.aload_n 0, 1) := by decide +kernel
theorem dL_law_896 : decode cL_law 896 = .ok (.iload_n 3, 1) := by decide +kernel
theorem dL_law_897 : decode cL_law 897 = .ok (.iconst 1, 1) := by decide +kernel
theorem dL_law_898 : decode cL_law 898 = .ok (.iadd, 1) := by decide +kernel
theorem dL_law_899 : decode cL_law 899 = .ok (.iaload, 1) := by decide +kernel
theorem dL_law_900 : decode cL_law 900 = .ok (.aload_n 0, 1) := by decide +kernel
theorem dL_law_901 : decode cL_law 901 = .ok (.iload_n 3, 1) := by decide +kernel
theorem dL_law_902 : decode cL_law 902 = .ok (.iconst 2, 1) := by decide +kernel
theorem dL_law_903 : decode cL_law 903 = .ok (.iadd, 1) := by decide +kernel
theorem dL_law_904 : decode cL_law 904 = .ok (.iaload, 1) := by decide +kernel
theorem dL_law_905 : decode cL_law 905 = .ok (.aload_n 0, 1) := by decide +kernel
theorem dL_law_906 : decode cL_law 906 = .ok (.iload_n 3, 1) := by decide +kernel
theorem dL_law_907 : decode cL_law 907 = .ok (.iconst 3, 1) := by decide +kernel
theorem dL_law_908 : decode cL_law 908 = .ok (.iadd, 1) := by decide +kernel
theorem dL_law_909 : decode cL_law 909 = .ok (.iaload, 1) := by decide +kernel
theorem dL_law_910 : decode cL_law 910 = .ok (.aload_n 0, 1) := by decide +kernel
theorem dL_law_911 : decode cL_law 911 = .ok (.iload_n 3, 1) := by decide +kernel
theorem dL_law_912 : decode cL_law 912 = .ok (.iconst 4, 1) := by decide +kernel
theorem dL_law_913 : decode cL_law 913 = .ok (.iadd, 1) := by decide +kernel
theorem dL_law_914 : decode cL_law 914 = .ok (.iaload, 1) := by decide +kernel
theorem dL_law_915 : decode cL_law 915 = .ok (.invokevirtual 118, 3) := by decide +kernel
theorem dL_law_918 : decode cL_law 918 = .ok (.aload_n 2, 1) := by decide +kernel
theorem dL_law_919 : decode cL_law 919 = .ok (.aload_n 0, 1) := by decide +kernel
theorem dL_law_920 : decode cL_law 920 = .ok (.iload_n 3, 1) := by decide +kernel
theorem dL_law_921 : decode cL_law 921 = .ok (.iconst 1, 1) := by decide +kernel
theorem dL_law_922 : decode cL_law 922 = .ok (.iadd, 1) := by decide +kernel
theorem dL_law_923 : decode cL_law 923 = .ok (.iaload, 1) := by decide +kernel
theorem dL_law_924 : decode cL_law 924 = .ok (.aload_n 0, 1) := by decide +kernel
theorem dL_law_925 : decode cL_law 925 = .ok (.iload_n 3, 1) := by decide +kernel
theorem dL_law_926 : decode cL_law 926 = .ok (.iconst 2, 1) := by decide +kernel
theorem dL_law_927 : decode cL_law 927 = .ok (.iadd, 1) := by decide +kernel
theorem dL_law_928 : decode cL_law 928 = .ok (.iaload, 1) := by decide +kernel
theorem dL_law_929 : decode cL_law 929 = .ok (.aload_n 0, 1) := by decide +kernel
theorem dL_law_930 : decode cL_law 930 = .ok (.iload_n 3, 1) := by decide +kernel
theorem dL_law_931 : decode cL_law 931 = .ok (.iconst 3, 1) := by decide +kernel
theorem dL_law_932 : decode cL_law 932 = .ok (.iadd, 1) := by decide +kernel
theorem dL_law_933 : decode cL_law 933 = .ok (.iaload, 1) := by decide +kernel
theorem dL_law_934 : decode cL_law 934 = .ok (.aload_n 0, 1) := by decide +kernel
theorem dL_law_935 : decode cL_law 935 = .ok (.iload_n 3, 1) := by decide +kernel
theorem dL_law_936 : decode cL_law 936 = .ok (.iconst 4, 1) := by decide +kernel
theorem dL_law_937 : decode cL_law 937 = .ok (.iadd, 1) := by decide +kernel
theorem dL_law_938 : decode cL_law 938 = .ok (.iaload, 1) := by decide +kernel
theorem dL_law_939 : decode cL_law 939 = .ok (.invokevirtual 122, 3) := by decide +kernel
theorem dL_law_942 : decode cL_law 942 = .ok (.if_icmp .eq 149, 3) := by decide +kernel
theorem dL_law_945 : decode cL_law 945 = .ok (.iconst 0, 1) := by decide +kernel
theorem dL_law_946 : decode cL_law 946 = .ok (.ireturn, 1) := by decide +kernel
theorem dL_law_947 : decode cL_law 947 = .ok (.aload_n 1, 1) := by decide +kernel
theorem dL_law_948 : decode cL_law 948 = .ok (.invokevirtual 123, 3) := by decide +kernel
theorem dL_law_951 : decode cL_law 951 = .ok (.aload_n 2, 1) := by decide +kernel
theorem dL_law_952 : decode cL_law 952 = .ok (.invokevirtual 126, 3) := by decide +kernel
theorem dL_law_955 : decode cL_law 955 = .ok (.if_icmp .eq 136, 3) := by decide +kernel
theorem dL_law_958 : decode cL_law 958 = .ok (.iconst 0, 1) := by decide +kernel
theorem dL_law_959 : decode cL_law 959 = .ok (.ireturn, 1) := by decide +kernel
theorem dL_law_960 : decode cL_law 960 = .ok (.aload_n 1, 1) := by decide +kernel
theorem dL_law_961 : decode cL_law 961 = .ok (.aload_n 0, 1) := by decide +kernel
theorem dL_law_962 : decode cL_law 962 = .ok (.iload_n 3, 1) := by decide +kernel
theorem dL_law_963 : decode cL_law 963 = .ok (.iconst 1, 1) := by decide +kernel
theorem dL_law_964 : decode cL_law 964 = .ok (.iadd, 1) := by decide +kernel
theorem dL_law_965 : decode cL_law 965 = .ok (.iaload, 1) := by decide +kernel
theorem dL_law_966 : decode cL_law 966 = .ok (.invokevirtual 127, 3) := by decide +kernel
theorem dL_law_969 : decode cL_law 969 = .ok (.aload_n 2, 1) := by decide +kernel
theorem dL_law_970 : decode cL_law 970 = .ok (.aload_n 0, 1) := by decide +kernel
theorem dL_law_971 : decode cL_law 971 = .ok (.iload_n 3, 1) := by decide +kernel
theorem dL_law_972 : decode cL_law 972 = .ok (.iconst 1, 1) := by decide +kernel
theorem dL_law_973 : decode cL_law 973 = .ok (.iadd, 1) := by decide +kernel
theorem dL_law_974 : decode cL_law 974 = .ok (.iaload, 1) := by decide +kernel
theorem dL_law_975 : decode cL_law 975 = .ok (.invokevirtual 130, 3) := by decide +kernel
theorem dL_law_978 : decode cL_law 978 = .ok (.if_icmp .eq 113, 3) := by decide +kernel
theorem dL_law_981 : decode cL_law 981 = .ok (.iconst 0, 1) := by decide +kernel
theorem dL_law_982 : decode cL_law 982 = .ok (.ireturn, 1) := by decide +kernel
theorem dL_law_983 : decode cL_law 983 = .ok (.aload_n 1, 1) := by decide +kernel
theorem dL_law_984 : decode cL_law 984 = .ok (.aload_n 0, 1) := by decide +kernel
theorem dL_law_985 : decode cL_law 985 = .ok (.iload_n 3, 1) := by decide +kernel
theorem dL_law_986 : decode cL_law 986 = .ok (.iconst 1, 1) := by decide +kernel
theorem dL_law_987 : decode cL_law 987 = .ok (.iadd, 1) := by decide +kernel
theorem dL_law_988 : decode cL_law 988 = .ok (.iaload, 1) := by decide +kernel
theorem dL_law_989 : decode cL_law 989 = .ok (.invokevirtual 131, 3) := by decide +kernel
theorem dL_law_992 : decode cL_law 992 = .ok (.aload_n 2, 1) := by decide +kernel
theorem dL_law_993 : decode cL_law 993 = .ok (.aload_n 0, 1) := by decide +kernel
theorem dL_law_994 : decode cL_law 994 = .ok (.iload_n 3, 1) := by decide +kernel
theorem dL_law_995 : decode cL_law 995 = .ok (.iconst 1, 1) := by decide +kernel
theorem dL_law_996 : decode cL_law 996 = .ok (.iadd, 1) := by decide +kernel
theorem dL_law_997 : decode cL_law 997 = .ok (.iaload, 1) := by decide +kernel
theorem dL_law_998 : decode cL_law 998 = .ok (.invokevirtual 134, 3) := by decide +kernel
theorem dL_law_1001 : decode cL_law 1001 = .ok (.if_icmp .eq 90, 3) := by decide +kernel
theorem dL_law_1004 : decode cL_law 1004 = .ok (.iconst 0, 1) := by decide +kernel
theorem dL_law_1005 : decode cL_law 1005 = .ok (.ireturn, 1) := by decide +kernel
theorem dL_law_1006 : decode cL_law 1006 = .ok (.aload_n 1, 1) := by decide +kernel
theorem dL_law_1007 : decode cL_law 1007 = .ok (.aload_n 0, 1) := by decide +kernel
theorem dL_law_1008 : decode cL_law 1008 = .ok (.iload_n 3, 1) := by decide +kernel
theorem dL_law_1009 : decode cL_law 1009 = .ok (.iconst 1, 1) := by decide +kernel
theorem dL_law_1010 : decode cL_law 1010 = .ok (.iadd, 1) := by decide +kernel
theorem dL_law_1011 : decode cL_law 1011 = .ok (.iaload, 1) := by decide +kernel
theorem dL_law_1012 : decode cL_law 1012 = .ok (.invokevirtual 135, 3) := by decide +kernel
theorem dL_law_1015 : decode cL_law 1015 = .ok (.aload_n 2, 1) := by decide +kernel
theorem dL_law_1016 : decode cL_law 1016 = .ok (.aload_n 0, 1) := by decide +kernel
theorem dL_law_1017 : decode cL_law 1017 = .ok (.iload_n 3, 1) := by decide +kernel
theorem dL_law_1018 : decode cL_law 1018 = .ok (.iconst 1, 1) := by decide +kernel
theorem dL_law_1019 : decode cL_law 1019 = .ok (.iadd, 1) := by decide +kernel
theorem dL_law_1020 : decode cL_law 1020 = .ok (.iaload, 1) := by decide +kernel
theorem dL_law_1021 : decode cL_law 1021 = .ok (.invokevirtual 138, 3) := by decide +kernel
theorem dL_law_1024 : decode cL_law 1024 = .ok (.if_icmp .eq 67, 3) := by decide +kernel
theorem dL_law_1027 : decode cL_law 1027 = .ok (.iconst 0, 1) := by decide +kernel
theorem dL_law_1028 : decode cL_law 1028 = .ok (.ireturn, 1) := by decide +kernel
theorem dL_law_1029 : decode cL_law 1029 = .ok (.aload_n 1, 1) := by decide +kernel
theorem dL_law_1030 : decode cL_law 1030 = .ok (.aload_n 0, 1) := by decide +kernel
theorem dL_law_1031 : decode cL_law 1031 = .ok (.iload_n 3, 1) := by decide +kernel
theorem dL_law_1032 : decode cL_law 1032 = .ok (.iconst 1, 1) := by decide +kernel
theorem dL_law_1033 : decode cL_law 1033 = .ok (.iadd, 1) := by decide +kernel
theorem dL_law_1034 : decode cL_law 1034 = .ok (.iaload, 1) := by decide +kernel
theorem dL_law_1035 : decode cL_law 1035 = .ok (.ifCond .eq 7, 3) := by decide +kernel
theorem dL_law_1038 : decode cL_law 1038 = .ok (.iconst 1, 1) := by decide +kernel
theorem dL_law_1039 : decode cL_law 1039 = .ok (.goto 4, 3) := by decide +kernel
theorem dL_law_1042 : decode cL_law 1042 = .ok (.iconst 0, 1) := by decide +kernel
theorem dL_law_1043 : decode cL_law 1043 = .ok (.invokevirtual 139, 3) := by decide +kernel
theorem dL_law_1046 : decode cL_law 1046 = .ok (.aload_n 2, 1) := by decide +kernel
theorem dL_law_1047 : decode cL_law 1047 = .ok (.aload_n 0, 1) := by decide +kernel
theorem dL_law_1048 : decode cL_law 1048 = .ok (.iload_n 3, 1) := by decide +kernel
theorem dL_law_1049 : decode cL_law 1049 = .ok (.iconst 1, 1) := by decide +kernel
theorem dL_law_1050 : decode cL_law 1050 = .ok (.iadd, 1) := by decide +kernel
theorem dL_law_1051 : decode cL_law 1051 = .ok (.iaload, 1) := by decide +kernel
theorem dL_law_1052 : decode cL_law 1052 = .ok (.ifCond .eq 7, 3) := by decide +kernel
theorem dL_law_1055 : decode cL_law 1055 = .ok (.iconst 1, 1) := by decide +kernel
theorem dL_law_1056 : decode cL_law 1056 = .ok (.goto 4, 3) := by decide +kernel
theorem dL_law_1059 : decode cL_law 1059 = .ok (.iconst 0, 1) := by decide +kernel
theorem dL_law_1060 : decode cL_law 1060 = .ok (.invokevirtual 143, 3) := by decide +kernel
theorem dL_law_1063 : decode cL_law 1063 = .ok (.if_icmp .eq 28, 3) := by decide +kernel
theorem dL_law_1066 : decode cL_law 1066 = .ok (.iconst 0, 1) := by decide +kernel
theorem dL_law_1067 : decode cL_law 1067 = .ok (.ireturn, 1) := by decide +kernel
theorem dL_law_1068 : decode cL_law 1068 = .ok (.aload_n 1, 1) := by decide +kernel
theorem dL_law_1069 : decode cL_law 1069 = .ok (.aload_n 0, 1) := by decide +kernel
theorem dL_law_1070 : decode cL_law 1070 = .ok (.iload_n 3, 1) := by decide +kernel
theorem dL_law_1071 : decode cL_law 1071 = .ok (.iconst 1, 1) := by decide +kernel
theorem dL_law_1072 : decode cL_law 1072 = .ok (.iadd, 1) := by decide +kernel
theorem dL_law_1073 : decode cL_law 1073 = .ok (.iaload, 1) := by decide +kernel
theorem dL_law_1074 : decode cL_law 1074 = .ok (.invokevirtual 144, 3) := by decide +kernel
theorem dL_law_1077 : decode cL_law 1077 = .ok (.aload_n 2, 1) := by decide +kernel
theorem dL_law_1078 : decode cL_law 1078 = .ok (.aload_n 0, 1) := by decide +kernel
theorem dL_law_1079 : decode cL_law 1079 = .ok (.iload_n 3, 1) := by decide +kernel
theorem dL_law_1080 : decode cL_law 1080 = .ok (.iconst 1, 1) := by decide +kernel
theorem dL_law_1081 : decode cL_law 1081 = .ok (.iadd, 1) := by decide +kernel
theorem dL_law_1082 : decode cL_law 1082 = .ok (.iaload, 1) := by decide +kernel
theorem dL_law_1083 : decode cL_law 1083 = .ok (.invokevirtual 147, 3) := by decide +kernel
theorem dL_law_1086 : decode cL_law 1086 = .ok (.if_icmp .eq 5, 3) := by decide +kernel
theorem dL_law_1089 : decode cL_law 1089 = .ok (.iconst 0, 1) := by decide +kernel
theorem dL_law_1090 : decode cL_law 1090 = .ok (.ireturn, 1) := by decide +kernel
theorem dL_law_1091 : decode cL_law 1091 = .ok (.iinc 3 6, 3) := by decide +kernel
theorem dL_law_1094 : decode cL_law 1094 = .ok (.goto (-1076), 3) := by decide +kernel
theorem dL_law_1097 : decode cL_law 1097 = .ok (.iconst 1, 1) := by decide +kernel
theorem dL_law_1098 : decode cL_law 1098 = .ok (.ireturn, 1) := by decide +kernel
