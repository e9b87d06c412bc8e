theorem dX0_init_0 : decode cX0_init 0 = .ok (.aload_n 0, 1) := by decide +kernel
theorem dX0_init_1 : decode cX0_init 1 = .ok (.invokespecial 3, 3) := by decide +kernel
theorem dX0_init_4 : decode cX0_init 4 = .ok (.aload_n 0, 1) := by decide +kernel
theorem dX0_init_5 : decode cX0_init 5 = .ok (.bipush 64, 2) := by decide +kernel
theorem dX0_init_7 : decode cX0_init 7 = .ok (.newarray .int, 2) := by decide +kernel
theorem dX0_init_9 : decode cX0_init 9 = .ok (.putfield 9, 3) := by decide +kernel
theorem dX0_init_12 : decode cX0_init 12 = .ok (.aload_n 0, 1) := by decide +kernel
theorem dX0_init_13 : decode cX0_init 13 = .ok (.bipush 64, 2) := by decide +kernel
theorem dX0_init_15 : decode cX0_init 15 = .ok (.newarray .boolean, 2) := by decide +kernel
theorem dX0_init_17 : decode cX0_init 17 = .ok (.putfield 15, 3) := by decide +kernel
theorem dX0_init_20 : decode cX0_init 20 = .ok (.aload_n 0, 1) := by decide +kernel
theorem dX0_init_21 : decode cX0_init 21 = .ok (.sipush 256, 3) := by decide +kernel
theorem dX0_init_24 : decode cX0_init 24 = .ok (.newarray .int, 2) := by decide +kernel
theorem dX0_init_26 : decode cX0_init 26 = .ok (.putfield 19, 3) := by decide +kernel
theorem dX0_init_29 : decode cX0_init 29 = .ok (.aload_n 0, 1) := by decide +kernel
theorem dX0_init_30 : decode cX0_init 30 = .ok (.sipush 256, 3) := by decide +kernel
theorem dX0_init_33 : decode cX0_init 33 = .ok (.newarray .int, 2) := by decide +kernel
theorem dX0_init_35 : decode cX0_init 35 = .ok (.putfield 22, 3) := by decide +kernel
theorem dX0_init_38 : decode cX0_init 38 = .ok (.aload_n 0, 1) := by decide +kernel
theorem dX0_init_39 : decode cX0_init 39 = .ok (.sipush 256, 3) := by decide +kernel
theorem dX0_init_42 : decode cX0_init 42 = .ok (.newarray .int, 2) := by decide +kernel
theorem dX0_init_44 : decode cX0_init 44 = .ok (.putfield 25, 3) := by decide +kernel
theorem dX0_init_47 : decode cX0_init 47 = .ok (.aload_n 0, 1) := by decide +kernel
theorem dX0_init_48 : decode cX0_init 48 = .ok (.sipush 256, 3) := by decide +kernel
theorem dX0_init_51 : decode cX0_init 51 = .ok (.newarray .int, 2) := by decide +kernel
theorem dX0_init_53 : decode cX0_init 53 = .ok (.putfield 28, 3) := by decide +kernel
theorem dX0_init_56 : decode cX0_init 56 = .ok (.aload_n 0, 1) := by decide +kernel
theorem dX0_init_57 : decode cX0_init 57 = .ok (.sipush 256, 3) := by decide +kernel
theorem dX0_init_60 : decode cX0_init 60 = .ok (.newarray .int, 2) := by decide +kernel
theorem dX0_init_62 : decode cX0_init 62 = .ok (.putfield 31, 3) := by decide +kernel
theorem dX0_init_65 : decode cX0_init 65 = .ok (.aload_n 0, 1) := by decide +kernel
theorem dX0_init_66 : decode cX0_init 66 = .ok (.bipush 96, 2) := by decide +kernel
theorem dX0_init_68 : decode cX0_init 68 = .ok (.newarray .int, 2) := by decide +kernel
theorem dX0_init_70 : decode cX0_init 70 = .ok (.putfield 34, 3) := by decide +kernel
theorem dX0_init_73 : decode cX0_init 73 = .ok (.aload_n 0, 1) := by decide +kernel
theorem dX0_init_74 : decode cX0_init 74 = .ok (.bipush 64, 2) := by decide +kernel
theorem dX0_init_76 : decode cX0_init 76 = .ok (.newarray .int, 2) := by decide +kernel
theorem dX0_init_78 : decode cX0_init 78 = .ok (.putfield 37, 3) := by decide +kernel
theorem dX0_init_81 : decode cX0_init 81 = .ok (.aload_n 0, 1) := by decide +kernel
theorem dX0_init_82 : decode cX0_init 82 = .ok (.iconst (-1), 1) := by decide +kernel
theorem dX0_init_83 : decode cX0_init 83 = .ok (.putfield 40, 3) := by decide +kernel
theorem dX0_init_86 : decode cX0_init 86 = .ok (.aload_n 0, 1) := by decide +kernel
theorem dX0_init_87 : decode cX0_init 87 = .ok (.iconst (-1), 1) := by decide +kernel
theorem dX0_init_88 : decode cX0_init 88 = .ok (.putfield 44, 3) := by decide +kernel
theorem dX0_init_91 : decode cX0_init 91 = .ok (.return_, 1) := by decide +kernel
theorem dX0_supportOf_0 : decode cX0_supportOf 0 = .ok (.aload_n 0, 1) := by decide +kernel
theorem dX0_supportOf_1 : decode cX0_supportOf 1 = .ok (.getfield 9, 3) := by decide +kernel
theorem dX0_supportOf_4 : decode cX0_supportOf 4 = .ok (.iload_n 1, 1) := by decide +kernel
theorem dX0_supportOf_5 : decode cX0_supportOf 5 = .ok (.bipush 8, 2) := by decide +kernel
theorem dX0_supportOf_7 : decode cX0_supportOf 7 = .ok (.imul, 1) := by decide +kernel
theorem dX0_supportOf_8 : decode cX0_supportOf 8 = .ok (.iload_n 2, 1) := by decide +kernel
theorem dX0_supportOf_9 : decode cX0_supportOf 9 = .ok (.iadd, 1) := by decide +kernel
theorem dX0_supportOf_10 : decode cX0_supportOf 10 = .ok (.iaload, 1) := by decide +kernel
theorem dX0_supportOf_11 : decode cX0_supportOf 11 = .ok (.ireturn, 1) := by decide +kernel
theorem dX0_beats_0 : decode cX0_beats 0 = .ok (.aload_n 0, 1) := by decide +kernel
theorem dX0_beats_1 : decode cX0_beats 1 = .ok (.iload_n 1, 1) := by decide +kernel
theorem dX0_beats_2 : decode cX0_beats 2 = .ok (.iload_n 2, 1) := by decide +kernel
theorem dX0_beats_3 : decode cX0_beats 3 = .ok (.invokevirtual 47, 3) := by decide +kernel
theorem dX0_beats_6 : decode cX0_beats 6 = .ok (.aload_n 0, 1) := by decide +kernel
theorem dX0_beats_7 : decode cX0_beats 7 = .ok (.iload_n 2, 1) := by decide +kernel
theorem dX0_beats_8 : decode cX0_beats 8 = .ok (.iload_n 1, 1) := by decide +kernel
theorem dX0_beats_9 : decode cX0_beats 9 = .ok (.invokevirtual 47, 3) := by decide +kernel
theorem dX0_beats_12 : decode cX0_beats 12 = .ok (.if_icmp .le 7, 3) := by decide +kernel
theorem dX0_beats_15 : decode cX0_beats 15 = .ok (.iconst 1, 1) := by decide +kernel
theorem dX0_beats_16 : decode cX0_beats 16 = .ok (.goto 4, 3) := by decide +kernel
theorem dX0_beats_19 : decode cX0_beats 19 = .ok (.iconst 0, 1) := by decide +kernel
theorem dX0_beats_20 : decode cX0_beats 20 = .ok (.ireturn, 1) := by decide +kernel
theorem dX0_count_0 : decode cX0_count 0 = .ok (.iconst 0, 1) := by decide +kernel
theorem dX0_count_1 : decode cX0_count 1 = .ok (.istore_n 2, 1) := by decide +kernel
theorem dX0_count_2 : decode cX0_count 2 = .ok (.iload_n 2, 1) := by decide +kernel
theorem dX0_count_3 : decode cX0_count 3 = .ok (.aload_n 0, 1) := by decide +kernel
theorem dX0_count_4 : decode cX0_count 4 = .ok (.getfield 9, 3) := by decide +kernel
theorem dX0_count_7 : decode cX0_count 7 = .ok (.arraylength, 1) := by decide +kernel
theorem dX0_count_8 : decode cX0_count 8 = .ok (.if_icmp .ge 16, 3) := by decide +kernel
theorem dX0_count_11 : decode cX0_count 11 = .ok (.aload_n 0, 1) := by decide +kernel
theorem dX0_count_12 : decode cX0_count 12 = .ok (.getfield 9, 3) := by decide +kernel
theorem dX0_count_15 : decode cX0_count 15 = .ok (.iload_n 2, 1) := by decide +kernel
theorem dX0_count_16 : decode cX0_count 16 = .ok (.iconst 0, 1) := by decide +kernel
theorem dX0_count_17 : decode cX0_count 17 = .ok (.iastore, 1) := by decide +kernel
theorem dX0_count_18 : decode cX0_count 18 = .ok (.iinc 2 1, 3) := by decide +kernel
theorem dX0_count_21 : decode cX0_count 21 = .ok (.goto (-19), 3) := by decide +kernel
theorem dX0_count_24 : decode cX0_count 24 = .ok (.iconst 0, 1) := by decide +kernel
theorem dX0_count_25 : decode cX0_count 25 = .ok (.istore_n 2, 1) := by decide +kernel
theorem dX0_count_26 : decode cX0_count 26 = .ok (.iload_n 2, 1) := by decide +kernel
theorem dX0_count_27 : decode cX0_count 27 = .ok (.aload_n 1, 1) := by decide +kernel
theorem dX0_count_28 : decode cX0_count 28 = .ok (.getfield 51, 3) := by decide +kernel
theorem dX0_count_31 : decode cX0_count 31 = .ok (.if_icmp .ge 100, 3) := by decide +kernel
theorem dX0_count_34 : decode cX0_count 34 = .ok (.iconst 0, 1) := by decide +kernel
theorem dX0_count_35 : decode cX0_count 35 = .ok (.istore_n 3, 1) := by decide +kernel
theorem dX0_count_36 : decode cX0_count 36 = .ok (.iload_n 3, 1) := by decide +kernel
theorem dX0_count_37 : decode cX0_count 37 = .ok (.aload_n 1, 1) := by decide +kernel
theorem dX0_count_38 : decode cX0_count 38 = .ok (.getfield 56, 3) := by decide +kernel
theorem dX0_count_41 : decode cX0_count 41 = .ok (.if_icmp .ge 84, 3) := by decide +kernel
theorem dX0_count_44 : decode cX0_count 44 = .ok (.aload_n 1, 1) := by decide +kernel
theorem dX0_count_45 : decode cX0_count 45 = .ok (.getfield 59, 3) := by decide +kernel
theorem dX0_count_48 : decode cX0_count 48 = .ok (.iload_n 2, 1) := by decide +kernel
theorem dX0_count_49 : decode cX0_count 49 = .ok (.iaload, 1) := by decide +kernel
theorem dX0_count_50 : decode cX0_count 50 = .ok (.aload_n 1, 1) := by decide +kernel
theorem dX0_count_51 : decode cX0_count 51 = .ok (.getfield 56, 3) := by decide +kernel
theorem dX0_count_54 : decode cX0_count 54 = .ok (.iload_n 3, 1) := by decide +kernel
theorem dX0_count_55 : decode cX0_count 55 = .ok (.invokestatic 62, 3) := by decide +kernel
theorem dX0_count_58 : decode cX0_count 58 = .ok (.istore 4, 2) := by decide +kernel
theorem dX0_count_60 : decode cX0_count 60 = .ok (.iload_n 3, 1) := by decide +kernel
theorem dX0_count_61 : decode cX0_count 61 = .ok (.iconst 1, 1) := by decide +kernel
theorem dX0_count_62 : decode cX0_count 62 = .ok (.iadd, 1) := by decide +kernel
theorem dX0_count_63 : decode cX0_count 63 = .ok (.istore 5, 2) := by decide +kernel
theorem dX0_count_65 : decode cX0_count 65 = .ok (.iload 5, 2) := by decide +kernel
theorem dX0_count_67 : decode cX0_count 67 = .ok (.aload_n 1, 1) := by decide +kernel
theorem dX0_count_68 : decode cX0_count 68 = .ok (.getfield 56, 3) := by decide +kernel
theorem dX0_count_71 : decode cX0_count 71 = .ok (.if_icmp .ge 48, 3) := by decide +kernel
theorem dX0_count_74 : decode cX0_count 74 = .ok (.aload_n 1, 1) := by decide +kernel
theorem dX0_count_75 : decode cX0_count 75 = .ok (.getfield 59, 3) := by decide +kernel
theorem dX0_count_78 : decode cX0_count 78 = .ok (.iload_n 2, 1) := by decide +kernel
theorem dX0_count_79 : decode cX0_count 79 = .ok (.iaload, 1) := by decide +kernel
theorem dX0_count_80 : decode cX0_count 80 = .ok (.aload_n 1, 1) := by decide +kernel
theorem dX0_count_81 : decode cX0_count 81 = .ok (.getfield 56, 3) := by decide +kernel
theorem dX0_count_84 : decode cX0_count 84 = .ok (.iload 5, 2) := by decide +kernel
theorem dX0_count_86 : decode cX0_count 86 = .ok (.invokestatic 62, 3) := by decide +kernel
theorem dX0_count_89 : decode cX0_count 89 = .ok (.istore 6, 2) := by decide +kernel
theorem dX0_count_91 : decode cX0_count 91 = .ok (.aload_n 0, 1) := by decide +kernel
theorem dX0_count_92 : decode cX0_count 92 = .ok (.getfield 9, 3) := by decide +kernel
theorem dX0_count_95 : decode cX0_count 95 = .ok (.iload 4, 2) := by decide +kernel
theorem dX0_count_97 : decode cX0_count 97 = .ok (.bipush 8, 2) := by decide +kernel
theorem dX0_count_99 : decode cX0_count 99 = .ok (.imul, 1) := by decide +kernel
theorem dX0_count_100 : decode cX0_count 100 = .ok (.iload 6, 2) := by decide +kernel
theorem dX0_count_102 : decode cX0_count 102 = .ok (.iadd, 1) := by decide +kernel
theorem dX0_count_103 : decode cX0_count 103 = .ok (.dup2, 1) := by decide +kernel
theorem dX0_count_104 : decode cX0_count 104 = .ok (.iaload, 1) := by decide +kernel
theorem dX0_count_105 : decode cX0_count 105 = .ok (.aload_n 1, 1) := by decide +kernel
theorem dX0_count_106 : decode cX0_count 106 = .ok (.getfield 68, 3) := by decide +kernel
theorem dX0_count_109 : decode cX0_count 109 = .ok (.iload_n 2, 1) := by decide +kernel
theorem dX0_count_110 : decode cX0_count 110 = .ok (.iaload, 1) := by decide +kernel
theorem dX0_count_111 : decode cX0_count 111 = .ok (.iadd, 1) := by decide +kernel
theorem dX0_count_112 : decode cX0_count 112 = .ok (.iastore, 1) := by decide +kernel
theorem dX0_count_113 : decode cX0_count 113 = .ok (.iinc 5 1, 3) := by decide +kernel
theorem dX0_count_116 : decode cX0_count 116 = .ok (.goto (-51), 3) := by decide +kernel
theorem dX0_count_119 : decode cX0_count 119 = .ok (.iinc 3 1, 3) := by decide +kernel
theorem dX0_count_122 : decode cX0_count 122 = .ok (.goto (-86), 3) := by decide +kernel
theorem dX0_count_125 : decode cX0_count 125 = .ok (.iinc 2 1, 3) := by decide +kernel
theorem dX0_count_128 : decode cX0_count 128 = .ok (.goto (-102), 3) := by decide +kernel
theorem dX0_count_131 : decode cX0_count 131 = .ok (.return_, 1) := by decide +kernel
theorem dX0_orderBy_0 : decode cX0_orderBy 0 = .ok (.aload_n 1, 1) := by decide +kernel
theorem dX0_orderBy_1 : decode cX0_orderBy 1 = .ok (.getfield 51, 3) := by decide +kernel
theorem dX0_orderBy_4 : decode cX0_orderBy 4 = .ok (.ifCond .ne 8, 3) := by decide +kernel
theorem dX0_orderBy_7 : decode cX0_orderBy 7 = .ok (.aload_n 1, 1) := by decide +kernel
theorem dX0_orderBy_8 : decode cX0_orderBy 8 = .ok (.getfield 71, 3) := by decide +kernel
theorem dX0_orderBy_11 : decode cX0_orderBy 11 = .ok (.ireturn, 1) := by decide +kernel
theorem dX0_orderBy_12 : decode cX0_orderBy 12 = .ok (.aload_n 0, 1) := by decide +kernel
theorem dX0_orderBy_13 : decode cX0_orderBy 13 = .ok (.aload_n 1, 1) := by decide +kernel
theorem dX0_orderBy_14 : decode cX0_orderBy 14 = .ok (.invokevirtual 74, 3) := by decide +kernel
theorem dX0_orderBy_17 : decode cX0_orderBy 17 = .ok (.iload_n 2, 1) := by decide +kernel
theorem dX0_orderBy_18 : decode cX0_orderBy 18 = .ok (.iconst 2, 1) := by decide +kernel
theorem dX0_orderBy_19 : decode cX0_orderBy 19 = .ok (.if_icmp .ne 25, 3) := by decide +kernel
theorem dX0_orderBy_22 : decode cX0_orderBy 22 = .ok (.aload_n 0, 1) := by decide +kernel
theorem dX0_orderBy_23 : decode cX0_orderBy 23 = .ok (.aload_n 1, 1) := by decide +kernel
theorem dX0_orderBy_24 : decode cX0_orderBy 24 = .ok (.getfield 56, 3) := by decide +kernel
theorem dX0_orderBy_27 : decode cX0_orderBy 27 = .ok (.invokevirtual 78, 3) := by decide +kernel
theorem dX0_orderBy_30 : decode cX0_orderBy 30 = .ok (.aload_n 0, 1) := by decide +kernel
theorem dX0_orderBy_31 : decode cX0_orderBy 31 = .ok (.getfield 22, 3) := by decide +kernel
theorem dX0_orderBy_34 : decode cX0_orderBy 34 = .ok (.iconst 1, 1) := by decide +kernel
theorem dX0_orderBy_35 : decode cX0_orderBy 35 = .ok (.aload_n 1, 1) := by decide +kernel
theorem dX0_orderBy_36 : decode cX0_orderBy 36 = .ok (.getfield 56, 3) := by decide +kernel
theorem dX0_orderBy_39 : decode cX0_orderBy 39 = .ok (.ishl, 1) := by decide +kernel
theorem dX0_orderBy_40 : decode cX0_orderBy 40 = .ok (.iconst 1, 1) := by decide +kernel
theorem dX0_orderBy_41 : decode cX0_orderBy 41 = .ok (.isub, 1) := by decide +kernel
theorem dX0_orderBy_42 : decode cX0_orderBy 42 = .ok (.iaload, 1) := by decide +kernel
theorem dX0_orderBy_43 : decode cX0_orderBy 43 = .ok (.ireturn, 1) := by decide +kernel
theorem dX0_orderBy_44 : decode cX0_orderBy 44 = .ok (.aload_n 0, 1) := by decide +kernel
theorem dX0_orderBy_45 : decode cX0_orderBy 45 = .ok (.aload_n 1, 1) := by decide +kernel
theorem dX0_orderBy_46 : decode cX0_orderBy 46 = .ok (.getfield 56, 3) := by decide +kernel
theorem dX0_orderBy_49 : decode cX0_orderBy 49 = .ok (.iload_n 2, 1) := by decide +kernel
theorem dX0_orderBy_50 : decode cX0_orderBy 50 = .ok (.invokevirtual 82, 3) := by decide +kernel
theorem dX0_orderBy_53 : decode cX0_orderBy 53 = .ok (.ireturn, 1) := by decide +kernel
theorem dX0_orderByMerit_0 : decode cX0_orderByMerit 0 = .ok (.iconst 0, 1) := by decide +kernel
theorem dX0_orderByMerit_1 : decode cX0_orderByMerit 1 = .ok (.istore_n 3, 1) := by decide +kernel
theorem dX0_orderByMerit_2 : decode cX0_orderByMerit 2 = .ok (.iconst 0, 1) := by decide +kernel
theorem dX0_orderByMerit_3 : decode cX0_orderByMerit 3 = .ok (.istore 4, 2) := by decide +kernel
theorem dX0_orderByMerit_5 : decode cX0_orderByMerit 5 = .ok (.iload 4, 2) := by decide +kernel
theorem dX0_orderByMerit_7 : decode cX0_orderByMerit 7 = .ok (.iload_n 1, 1) := by decide +kernel
theorem dX0_orderByMerit_8 : decode cX0_orderByMerit 8 = .ok (.if_icmp .ge 64, 3) := by decide +kernel
theorem dX0_orderByMerit_11 : decode cX0_orderByMerit 11 = .ok (.iconst 0, 1) := by decide +kernel
theorem dX0_orderByMerit_12 : decode cX0_orderByMerit 12 = .ok (.istore 5, 2) := by decide +kernel
theorem dX0_orderByMerit_14 : decode cX0_orderByMerit 14 = .ok (.iconst 0, 1) := by decide +kernel
theorem dX0_orderByMerit_15 : decode cX0_orderByMerit 15 = .ok (.istore 6, 2) := by decide +kernel
theorem dX0_orderByMerit_17 : decode cX0_orderByMerit 17 = .ok (.iload 6, 2) := by decide +kernel
theorem dX0_orderByMerit_19 : decode cX0_orderByMerit 19 = .ok (.iload_n 1, 1) := by decide +kernel
theorem dX0_orderByMerit_20 : decode cX0_orderByMerit 20 = .ok (.if_icmp .ge 32, 3) := by decide +kernel
theorem dX0_orderByMerit_23 : decode cX0_orderByMerit 23 = .ok (.iload 6, 2) := by decide +kernel
theorem dX0_orderByMerit_25 : decode cX0_orderByMerit 25 = .ok (.iload 4, 2) := by decide +kernel
theorem dX0_orderByMerit_27 : decode cX0_orderByMerit 27 = .ok (.if_icmp .eq 19, 3) := by decide +kernel
theorem dX0_orderByMerit_30 : decode cX0_orderByMerit 30 = .ok (.aload_n 0, 1) := by decide +kernel
theorem dX0_orderByMerit_31 : decode cX0_orderByMerit 31 = .ok (.iload 6, 2) := by decide +kernel
theorem dX0_orderByMerit_33 : decode cX0_orderByMerit 33 = .ok (.iload 4, 2) := by decide +kernel
theorem dX0_orderByMerit_35 : decode cX0_orderByMerit 35 = .ok (.iload_n 1, 1) := by decide +kernel
theorem dX0_orderByMerit_36 : decode cX0_orderByMerit 36 = .ok (.iload_n 2, 1) := by decide +kernel
theorem dX0_orderByMerit_37 : decode cX0_orderByMerit 37 = .ok (.invokevirtual 85, 3) := by decide +kernel
theorem dX0_orderByMerit_40 : decode cX0_orderByMerit 40 = .ok (.ifCond .eq 6, 3) := by decide +kernel
theorem dX0_orderByMerit_43 : decode cX0_orderByMerit 43 = .ok (.iinc 5 1, 3) := by decide +kernel
theorem dX0_orderByMerit_46 : decode cX0_orderByMerit 46 = .ok (.iinc 6 1, 3) := by decide +kernel
theorem dX0_orderByMerit_49 : decode cX0_orderByMerit 49 = .ok (.goto (-32), 3) := by decide +kernel
theorem dX0_orderByMerit_52 : decode cX0_orderByMerit 52 = .ok (.iload_n 3, 1) := by decide +kernel
theorem dX0_orderByMerit_53 : decode cX0_orderByMerit 53 = .ok (.iload 4, 2) := by decide +kernel
theorem dX0_orderByMerit_55 : decode cX0_orderByMerit 55 = .ok (.iconst 3, 1) := by decide +kernel
theorem dX0_orderByMerit_56 : decode cX0_orderByMerit 56 = .ok (.iload_n 1, 1) := by decide +kernel
theorem dX0_orderByMerit_57 : decode cX0_orderByMerit 57 = .ok (.iconst 1, 1) := by decide +kernel
theorem dX0_orderByMerit_58 : decode cX0_orderByMerit 58 = .ok (.isub, 1) := by decide +kernel
theorem dX0_orderByMerit_59 : decode cX0_orderByMerit 59 = .ok (.iload 5, 2) := by decide +kernel
theorem dX0_orderByMerit_61 : decode cX0_orderByMerit 61 = .ok (.isub, 1) := by decide +kernel
theorem dX0_orderByMerit_62 : decode cX0_orderByMerit 62 = .ok (.imul, 1) := by decide +kernel
theorem dX0_orderByMerit_63 : decode cX0_orderByMerit 63 = .ok (.ishl, 1) := by decide +kernel
theorem dX0_orderByMerit_64 : decode cX0_orderByMerit 64 = .ok (.ior, 1) := by decide +kernel
theorem dX0_orderByMerit_65 : decode cX0_orderByMerit 65 = .ok (.istore_n 3, 1) := by decide +kernel
theorem dX0_orderByMerit_66 : decode cX0_orderByMerit 66 = .ok (.iinc 4 1, 3) := by decide +kernel
theorem dX0_orderByMerit_69 : decode cX0_orderByMerit 69 = .ok (.goto (-64), 3) := by decide +kernel
theorem dX0_orderByMerit_72 : decode cX0_orderByMerit 72 = .ok (.iload_n 3, 1) := by decide +kernel
theorem dX0_orderByMerit_73 : decode cX0_orderByMerit 73 = .ok (.ireturn, 1) := by decide +kernel
theorem dX0_isAheadByMerit_0 : decode cX0_isAheadByMerit 0 = .ok (.aload_n 0, 1) := by decide +kernel
theorem dX0_isAheadByMerit_1 : decode cX0_isAheadByMerit 1 = .ok (.iload_n 1, 1) := by decide +kernel
theorem dX0_isAheadByMerit_2 : decode cX0_isAheadByMerit 2 = .ok (.iload_n 3, 1) := by decide +kernel
theorem dX0_isAheadByMerit_3 : decode cX0_isAheadByMerit 3 = .ok (.iload 4, 2) := by decide +kernel
theorem dX0_isAheadByMerit_5 : decode cX0_isAheadByMerit 5 = .ok (.invokevirtual 89, 3) := by decide +kernel
theorem dX0_isAheadByMerit_8 : decode cX0_isAheadByMerit 8 = .ok (.aload_n 0, 1) := by decide +kernel
theorem dX0_isAheadByMerit_9 : decode cX0_isAheadByMerit 9 = .ok (.iload_n 2, 1) := by decide +kernel
theorem dX0_isAheadByMerit_10 : decode cX0_isAheadByMerit 10 = .ok (.iload_n 3, 1) := by decide +kernel
theorem dX0_isAheadByMerit_11 : decode cX0_isAheadByMerit 11 = .ok (.iload 4, 2) := by decide +kernel
theorem dX0_isAheadByMerit_13 : decode cX0_isAheadByMerit 13 = .ok (.invokevirtual 89, 3) := by decide +kernel
theorem dX0_isAheadByMerit_16 : decode cX0_isAheadByMerit 16 = .ok (.isub, 1) := by decide +kernel
theorem dX0_isAheadByMerit_17 : decode cX0_isAheadByMerit 17 = .ok (.istore 5, 2) := by decide +kernel
theorem dX0_isAheadByMerit_19 : decode cX0_isAheadByMerit 19 = .ok (.iload 5, 2) := by decide +kernel
theorem dX0_isAheadByMerit_21 : decode cX0_isAheadByMerit 21 = .ok (.ifCond .gt 13, 3) := by decide +kernel
theorem dX0_isAheadByMerit_24 : decode cX0_isAheadByMerit 24 = .ok (.iload 5, 2) := by decide +kernel
theorem dX0_isAheadByMerit_26 : decode cX0_isAheadByMerit 26 = .ok (.ifCond .ne 12, 3) := by decide +kernel
theorem dX0_isAheadByMerit_29 : decode cX0_isAheadByMerit 29 = .ok (.iload_n 1, 1) := by decide +kernel
theorem dX0_isAheadByMerit_30 : decode cX0_isAheadByMerit 30 = .ok (.iload_n 2, 1) := by decide +kernel
theorem dX0_isAheadByMerit_31 : decode cX0_isAheadByMerit 31 = .ok (.if_icmp .ge 7, 3) := by decide +kernel
theorem dX0_isAheadByMerit_34 : decode cX0_isAheadByMerit 34 = .ok (.iconst 1, 1) := by decide +kernel
theorem dX0_isAheadByMerit_35 : decode cX0_isAheadByMerit 35 = .ok (.goto 4, 3) := by decide +kernel
theorem dX0_isAheadByMerit_38 : decode cX0_isAheadByMerit 38 = .ok (.iconst 0, 1) := by decide +kernel
theorem dX0_isAheadByMerit_39 : decode cX0_isAheadByMerit 39 = .ok (.ireturn, 1) := by decide +kernel
theorem dX0_meritOf_0 : decode cX0_meritOf 0 = .ok (.iconst 0, 1) := by decide +kernel
theorem dX0_meritOf_1 : decode cX0_meritOf 1 = .ok (.istore 4, 2) := by decide +kernel
theorem dX0_meritOf_3 : decode cX0_meritOf 3 = .ok (.iconst 0, 1) := by decide +kernel
theorem dX0_meritOf_4 : decode cX0_meritOf 4 = .ok (.istore 5, 2) := by decide +kernel
theorem dX0_meritOf_6 : decode cX0_meritOf 6 = .ok (.iload 5, 2) := by decide +kernel
theorem dX0_meritOf_8 : decode cX0_meritOf 8 = .ok (.iload_n 2, 1) := by decide +kernel
theorem dX0_meritOf_9 : decode cX0_meritOf 9 = .ok (.if_icmp .ge 41, 3) := by decide +kernel
theorem dX0_meritOf_12 : decode cX0_meritOf 12 = .ok (.iload_n 3, 1) := by decide +kernel
theorem dX0_meritOf_13 : decode cX0_meritOf 13 = .ok (.ifCond .ne 18, 3) := by decide +kernel
theorem dX0_meritOf_16 : decode cX0_meritOf 16 = .ok (.iload 4, 2) := by decide +kernel
theorem dX0_meritOf_18 : decode cX0_meritOf 18 = .ok (.aload_n 0, 1) := by decide +kernel
theorem dX0_meritOf_19 : decode cX0_meritOf 19 = .ok (.iload_n 1, 1) := by decide +kernel
theorem dX0_meritOf_20 : decode cX0_meritOf 20 = .ok (.iload 5, 2) := by decide +kernel
theorem dX0_meritOf_22 : decode cX0_meritOf 22 = .ok (.invokevirtual 47, 3) := by decide +kernel
theorem dX0_meritOf_25 : decode cX0_meritOf 25 = .ok (.iadd, 1) := by decide +kernel
theorem dX0_meritOf_26 : decode cX0_meritOf 26 = .ok (.istore 4, 2) := by decide +kernel
theorem dX0_meritOf_28 : decode cX0_meritOf 28 = .ok (.goto 16, 3) := by decide +kernel
theorem dX0_meritOf_31 : decode cX0_meritOf 31 = .ok (.aload_n 0, 1) := by decide +kernel
theorem dX0_meritOf_32 : decode cX0_meritOf 32 = .ok (.iload_n 1, 1) := by decide +kernel
theorem dX0_meritOf_33 : decode cX0_meritOf 33 = .ok (.iload 5, 2) := by decide +kernel
theorem dX0_meritOf_35 : decode cX0_meritOf 35 = .ok (.invokevirtual 92, 3) := by decide +kernel
theorem dX0_meritOf_38 : decode cX0_meritOf 38 = .ok (.ifCond .eq 6, 3) := by decide +kernel
theorem dX0_meritOf_41 : decode cX0_meritOf 41 = .ok (.iinc 4 1, 3) := by decide +kernel
theorem dX0_meritOf_44 : decode cX0_meritOf 44 = .ok (.iinc 5 1, 3) := by decide +kernel
theorem dX0_meritOf_47 : decode cX0_meritOf 47 = .ok (.goto (-41), 3) := by decide +kernel
theorem dX0_meritOf_50 : decode cX0_meritOf 50 = .ok (.iload 4, 2) := by decide +kernel
theorem dX0_meritOf_52 : decode cX0_meritOf 52 = .ok (.ireturn, 1) := by decide +kernel
theorem dX0_findNearest_0 : decode cX0_findNearest 0 = .ok (.aload_n 0, 1) := by decide +kernel
theorem dX0_findNearest_1 : decode cX0_findNearest 1 = .ok (.getfield 19, 3) := by decide +kernel
theorem dX0_findNearest_4 : decode cX0_findNearest 4 = .ok (.iconst 0, 1) := by decide +kernel
theorem dX0_findNearest_5 : decode cX0_findNearest 5 = .ok (.iconst 0, 1) := by decide +kernel
theorem dX0_findNearest_6 : decode cX0_findNearest 6 = .ok (.iastore, 1) := by decide +kernel
theorem dX0_findNearest_7 : decode cX0_findNearest 7 = .ok (.aload_n 0, 1) := by decide +kernel
theorem dX0_findNearest_8 : decode cX0_findNearest 8 = .ok (.getfield 22, 3) := by decide +kernel
theorem dX0_findNearest_11 : decode cX0_findNearest 11 = .ok (.iconst 0, 1) := by decide +kernel
theorem dX0_findNearest_12 : decode cX0_findNearest 12 = .ok (.iconst 0, 1) := by decide +kernel
theorem dX0_findNearest_13 : decode cX0_findNearest 13 = .ok (.iastore, 1) := by decide +kernel
theorem dX0_findNearest_14 : decode cX0_findNearest 14 = .ok (.iconst 1, 1) := by decide +kernel
theorem dX0_findNearest_15 : decode cX0_findNearest 15 = .ok (.istore_n 2, 1) := by decide +kernel
theorem dX0_findNearest_16 : decode cX0_findNearest 16 = .ok (.iload_n 2, 1) := by decide +kernel
theorem dX0_findNearest_17 : decode cX0_findNearest 17 = .ok (.iconst 1, 1) := by decide +kernel
theorem dX0_findNearest_18 : decode cX0_findNearest 18 = .ok (.iload_n 1, 1) := by decide +kernel
theorem dX0_findNearest_19 : decode cX0_findNearest 19 = .ok (.ishl, 1) := by decide +kernel
theorem dX0_findNearest_20 : decode cX0_findNearest 20 = .ok (.if_icmp .ge 116, 3) := by decide +kernel
theorem dX0_findNearest_23 : decode cX0_findNearest 23 = .ok (.iconst 3, 1) := by decide +kernel
theorem dX0_findNearest_24 : decode cX0_findNearest 24 = .ok (.iload_n 2, 1) := by decide +kernel
theorem dX0_findNearest_25 : decode cX0_findNearest 25 = .ok (.invokestatic 96, 3) := by decide +kernel
theorem dX0_findNearest_28 : decode cX0_findNearest 28 = .ok (.iconst 1, 1) := by decide +kernel
theorem dX0_findNearest_29 : decode cX0_findNearest 29 = .ok (.isub, 1) := by decide +kernel
theorem dX0_findNearest_30 : decode cX0_findNearest 30 = .ok (.imul, 1) := by decide +kernel
theorem dX0_findNearest_31 : decode cX0_findNearest 31 = .ok (.istore_n 3, 1) := by decide +kernel
theorem dX0_findNearest_32 : decode cX0_findNearest 32 = .ok (.aload_n 0, 1) := by decide +kernel
theorem dX0_findNearest_33 : decode cX0_findNearest 33 = .ok (.getfield 19, 3) := by decide +kernel
theorem dX0_findNearest_36 : decode cX0_findNearest 36 = .ok (.iload_n 2, 1) := by decide +kernel
theorem dX0_findNearest_37 : decode cX0_findNearest 37 = .ok (.iconst (-1), 1) := by decide +kernel
theorem dX0_findNearest_38 : decode cX0_findNearest 38 = .ok (.iastore, 1) := by decide +kernel
theorem dX0_findNearest_39 : decode cX0_findNearest 39 = .ok (.iconst 0, 1) := by decide +kernel
theorem dX0_findNearest_40 : decode cX0_findNearest 40 = .ok (.istore 4, 2) := by decide +kernel
theorem dX0_findNearest_42 : decode cX0_findNearest 42 = .ok (.iload 4, 2) := by decide +kernel
theorem dX0_findNearest_44 : decode cX0_findNearest 44 = .ok (.iload_n 1, 1) := by decide +kernel
theorem dX0_findNearest_45 : decode cX0_findNearest 45 = .ok (.if_icmp .ge 85, 3) := by decide +kernel
theorem dX0_findNearest_48 : decode cX0_findNearest 48 = .ok (.iload_n 2, 1) := by decide +kernel
theorem dX0_findNearest_49 : decode cX0_findNearest 49 = .ok (.iload 4, 2) := by decide +kernel
theorem dX0_findNearest_51 : decode cX0_findNearest 51 = .ok (.ishr, 1) := by decide +kernel
theorem dX0_findNearest_52 : decode cX0_findNearest 52 = .ok (.iconst 1, 1) := by decide +kernel
theorem dX0_findNearest_53 : decode cX0_findNearest 53 = .ok (.iand, 1) := by decide +kernel
theorem dX0_findNearest_54 : decode cX0_findNearest 54 = .ok (.iconst 1, 1) := by decide +kernel
theorem dX0_findNearest_55 : decode cX0_findNearest 55 = .ok (.if_icmp .ne 69, 3) := by decide +kernel
theorem dX0_findNearest_58 : decode cX0_findNearest 58 = .ok (.iload_n 2, 1) := by decide +kernel
theorem dX0_findNearest_59 : decode cX0_findNearest 59 = .ok (.iconst 1, 1) := by decide +kernel
theorem dX0_findNearest_60 : decode cX0_findNearest 60 = .ok (.iload 4, 2) := by decide +kernel
theorem dX0_findNearest_62 : decode cX0_findNearest 62 = .ok (.ishl, 1) := by decide +kernel
theorem dX0_findNearest_63 : decode cX0_findNearest 63 = .ok (.iconst (-1), 1) := by decide +kernel
theorem dX0_findNearest_64 : decode cX0_findNearest 64 = .ok (.ixor, 1) := by decide +kernel
theorem dX0_findNearest_65 : decode cX0_findNearest 65 = .ok (.iand, 1) := by decide +kernel
theorem dX0_findNearest_66 : decode cX0_findNearest 66 = .ok (.istore 5, 2) := by decide +kernel
theorem dX0_findNearest_68 : decode cX0_findNearest 68 = .ok (.aload_n 0, 1) := by decide +kernel
theorem dX0_findNearest_69 : decode cX0_findNearest 69 = .ok (.iload 4, 2) := by decide +kernel
theorem dX0_findNearest_71 : decode cX0_findNearest 71 = .ok (.iload 5, 2) := by decide +kernel
theorem dX0_findNearest_73 : decode cX0_findNearest 73 = .ok (.iload_n 1, 1) := by decide +kernel
theorem dX0_findNearest_74 : decode cX0_findNearest 74 = .ok (.invokevirtual 102, 3) := by decide +kernel
theorem dX0_findNearest_77 : decode cX0_findNearest 77 = .ok (.aload_n 0, 1) := by decide +kernel
theorem dX0_findNearest_78 : decode cX0_findNearest 78 = .ok (.getfield 19, 3) := by decide +kernel
theorem dX0_findNearest_81 : decode cX0_findNearest 81 = .ok (.iload 5, 2) := by decide +kernel
theorem dX0_findNearest_83 : decode cX0_findNearest 83 = .ok (.iaload, 1) := by decide +kernel
theorem dX0_findNearest_84 : decode cX0_findNearest 84 = .ok (.iadd, 1) := by decide +kernel
theorem dX0_findNearest_85 : decode cX0_findNearest 85 = .ok (.istore 6, 2) := by decide +kernel
theorem dX0_findNearest_87 : decode cX0_findNearest 87 = .ok (.iload 6, 2) := by decide +kernel
theorem dX0_findNearest_89 : decode cX0_findNearest 89 = .ok (.aload_n 0, 1) := by decide +kernel
theorem dX0_findNearest_90 : decode cX0_findNearest 90 = .ok (.getfield 19, 3) := by decide +kernel
theorem dX0_findNearest_93 : decode cX0_findNearest 93 = .ok (.iload_n 2, 1) := by decide +kernel
theorem dX0_findNearest_94 : decode cX0_findNearest 94 = .ok (.iaload, 1) := by decide +kernel
theorem dX0_findNearest_95 : decode cX0_findNearest 95 = .ok (.if_icmp .le 29, 3) := by decide +kernel
theorem dX0_findNearest_98 : decode cX0_findNearest 98 = .ok (.aload_n 0, 1) := by decide +kernel
theorem dX0_findNearest_99 : decode cX0_findNearest 99 = .ok (.getfield 19, 3) := by decide +kernel
theorem dX0_findNearest_102 : decode cX0_findNearest 102 = .ok (.iload_n 2, 1) := by decide +kernel
theorem dX0_findNearest_103 : decode cX0_findNearest 103 = .ok (.iload 6, 2) := by decide +kernel
theorem dX0_findNearest_105 : decode cX0_findNearest 105 = .ok (.iastore, 1) := by decide +kernel
theorem dX0_findNearest_106 : decode cX0_findNearest 106 = .ok (.aload_n 0, 1) := by decide +kernel
theorem dX0_findNearest_107 : decode cX0_findNearest 107 = .ok (.getfield 22, 3) := by decide +kernel
theorem dX0_findNearest_110 : decode cX0_findNearest 110 = .ok (.iload_n 2, 1) := by decide +kernel
theorem dX0_findNearest_111 : decode cX0_findNearest 111 = .ok (.iload 4, 2) := by decide +kernel
theorem dX0_findNearest_113 : decode cX0_findNearest 113 = .ok (.iload_n 3, 1) := by decide +kernel
theorem dX0_findNearest_114 : decode cX0_findNearest 114 = .ok (.ishl, 1) := by decide +kernel
theorem dX0_findNearest_115 : decode cX0_findNearest 115 = .ok (.aload_n 0, 1) := by decide +kernel
theorem dX0_findNearest_116 : decode cX0_findNearest 116 = .ok (.getfield 22, 3) := by decide +kernel
theorem dX0_findNearest_119 : decode cX0_findNearest 119 = .ok (.iload 5, 2) := by decide +kernel
theorem dX0_findNearest_121 : decode cX0_findNearest 121 = .ok (.iaload, 1) := by decide +kernel
theorem dX0_findNearest_122 : decode cX0_findNearest 122 = .ok (.ior, 1) := by decide +kernel
theorem dX0_findNearest_123 : decode cX0_findNearest 123 = .ok (.iastore, 1) := by decide +kernel
theorem dX0_findNearest_124 : decode cX0_findNearest 124 = .ok (.iinc 4 1, 3) := by decide +kernel
theorem dX0_findNearest_127 : decode cX0_findNearest 127 = .ok (.goto (-85), 3) := by decide +kernel
theorem dX0_findNearest_130 : decode cX0_findNearest 130 = .ok (.iinc 2 1, 3) := by decide +kernel
theorem dX0_findNearest_133 : decode cX0_findNearest 133 = .ok (.goto (-117), 3) := by decide +kernel
theorem dX0_findNearest_136 : decode cX0_findNearest 136 = .ok (.return_, 1) := by decide +kernel
theorem dX0_supportOverAll_0 : decode cX0_supportOverAll 0 = .ok (.iconst 0, 1) := by decide +kernel
theorem dX0_supportOverAll_1 : decode cX0_supportOverAll 1 = .ok (.istore 4, 2) := by decide +kernel
theorem dX0_supportOverAll_3 : decode cX0_supportOverAll 3 = .ok (.iconst 0, 1) := by decide +kernel
theorem dX0_supportOverAll_4 : decode cX0_supportOverAll 4 = .ok (.istore 5, 2) := by decide +kernel
theorem dX0_supportOverAll_6 : decode cX0_supportOverAll 6 = .ok (.iload 5, 2) := by decide +kernel
theorem dX0_supportOverAll_8 : decode cX0_supportOverAll 8 = .ok (.iload_n 3, 1) := by decide +kernel
theorem dX0_supportOverAll_9 : decode cX0_supportOverAll 9 = .ok (.if_icmp .ge 31, 3) := by decide +kernel
theorem dX0_supportOverAll_12 : decode cX0_supportOverAll 12 = .ok (.iload_n 2, 1) := by decide +kernel
theorem dX0_supportOverAll_13 : decode cX0_supportOverAll 13 = .ok (.iload 5, 2) := by decide +kernel
theorem dX0_supportOverAll_15 : decode cX0_supportOverAll 15 = .ok (.ishr, 1) := by decide +kernel
theorem dX0_supportOverAll_16 : decode cX0_supportOverAll 16 = .ok (.iconst 1, 1) := by decide +kernel
theorem dX0_supportOverAll_17 : decode cX0_supportOverAll 17 = .ok (.iand, 1) := by decide +kernel
theorem dX0_supportOverAll_18 : decode cX0_supportOverAll 18 = .ok (.iconst 1, 1) := by decide +kernel
theorem dX0_supportOverAll_19 : decode cX0_supportOverAll 19 = .ok (.if_icmp .ne 15, 3) := by decide +kernel
theorem dX0_supportOverAll_22 : decode cX0_supportOverAll 22 = .ok (.iload 4, 2) := by decide +kernel
theorem dX0_supportOverAll_24 : decode cX0_supportOverAll 24 = .ok (.aload_n 0, 1) := by decide +kernel
theorem dX0_supportOverAll_25 : decode cX0_supportOverAll 25 = .ok (.iload_n 1, 1) := by decide +kernel
theorem dX0_supportOverAll_26 : decode cX0_supportOverAll 26 = .ok (.iload 5, 2) := by decide +kernel
theorem dX0_supportOverAll_28 : decode cX0_supportOverAll 28 = .ok (.invokevirtual 47, 3) := by decide +kernel
theorem dX0_supportOverAll_31 : decode cX0_supportOverAll 31 = .ok (.iadd, 1) := by decide +kernel
theorem dX0_supportOverAll_32 : decode cX0_supportOverAll 32 = .ok (.istore 4, 2) := by decide +kernel
theorem dX0_supportOverAll_34 : decode cX0_supportOverAll 34 = .ok (.iinc 5 1, 3) := by decide +kernel
theorem dX0_supportOverAll_37 : decode cX0_supportOverAll 37 = .ok (.goto (-31), 3) := by decide +kernel
theorem dX0_supportOverAll_40 : decode cX0_supportOverAll 40 = .ok (.iload 4, 2) := by decide +kernel
theorem dX0_supportOverAll_42 : decode cX0_supportOverAll 42 = .ok (.ireturn, 1) := by decide +kernel
theorem dX0_lettersInCircles_0 : decode cX0_lettersInCircles 0 = .ok (.iconst 0, 1) := by decide +kernel
theorem dX0_lettersInCircles_1 : decode cX0_lettersInCircles 1 = .ok (.istore_n 2, 1) := by decide +kernel
theorem dX0_lettersInCircles_2 : decode cX0_lettersInCircles 2 = .ok (.iload_n 2, 1) := by decide +kernel
theorem dX0_lettersInCircles_3 : decode cX0_lettersInCircles 3 = .ok (.iload_n 1, 1) := by decide +kernel
theorem dX0_lettersInCircles_4 : decode cX0_lettersInCircles 4 = .ok (.if_icmp .ge 39, 3) := by decide +kernel
theorem dX0_lettersInCircles_7 : decode cX0_lettersInCircles 7 = .ok (.iconst 0, 1) := by decide +kernel
theorem dX0_lettersInCircles_8 : decode cX0_lettersInCircles 8 = .ok (.istore_n 3, 1) := by decide +kernel
theorem dX0_lettersInCircles_9 : decode cX0_lettersInCircles 9 = .ok (.iload_n 3, 1) := by decide +kernel
theorem dX0_lettersInCircles_10 : decode cX0_lettersInCircles 10 = .ok (.iload_n 1, 1) := by decide +kernel
theorem dX0_lettersInCircles_11 : decode cX0_lettersInCircles 11 = .ok (.if_icmp .ge 26, 3) := by decide +kernel
theorem dX0_lettersInCircles_14 : decode cX0_lettersInCircles 14 = .ok (.aload_n 0, 1) := by decide +kernel
theorem dX0_lettersInCircles_15 : decode cX0_lettersInCircles 15 = .ok (.getfield 15, 3) := by decide +kernel
theorem dX0_lettersInCircles_18 : decode cX0_lettersInCircles 18 = .ok (.iload_n 2, 1) := by decide +kernel
theorem dX0_lettersInCircles_19 : decode cX0_lettersInCircles 19 = .ok (.bipush 8, 2) := by decide +kernel
theorem dX0_lettersInCircles_21 : decode cX0_lettersInCircles 21 = .ok (.imul, 1) := by decide +kernel
theorem dX0_lettersInCircles_22 : decode cX0_lettersInCircles 22 = .ok (.iload_n 3, 1) := by decide +kernel
theorem dX0_lettersInCircles_23 : decode cX0_lettersInCircles 23 = .ok (.iadd, 1) := by decide +kernel
theorem dX0_lettersInCircles_24 : decode cX0_lettersInCircles 24 = .ok (.aload_n 0, 1) := by decide +kernel
theorem dX0_lettersInCircles_25 : decode cX0_lettersInCircles 25 = .ok (.iload_n 2, 1) := by decide +kernel
theorem dX0_lettersInCircles_26 : decode cX0_lettersInCircles 26 = .ok (.iload_n 3, 1) := by decide +kernel
theorem dX0_lettersInCircles_27 : decode cX0_lettersInCircles 27 = .ok (.invokevirtual 92, 3) := by decide +kernel
theorem dX0_lettersInCircles_30 : decode cX0_lettersInCircles 30 = .ok (.bastore, 1) := by decide +kernel
theorem dX0_lettersInCircles_31 : decode cX0_lettersInCircles 31 = .ok (.iinc 3 1, 3) := by decide +kernel
theorem dX0_lettersInCircles_34 : decode cX0_lettersInCircles 34 = .ok (.goto (-25), 3) := by decide +kernel
theorem dX0_lettersInCircles_37 : decode cX0_lettersInCircles 37 = .ok (.iinc 2 1, 3) := by decide +kernel
theorem dX0_lettersInCircles_40 : decode cX0_lettersInCircles 40 = .ok (.goto (-38), 3) := by decide +kernel
theorem dX0_lettersInCircles_43 : decode cX0_lettersInCircles 43 = .ok (.iconst 0, 1) := by decide +kernel
theorem dX0_lettersInCircles_44 : decode cX0_lettersInCircles 44 = .ok (.istore_n 2, 1) := by decide +kernel
theorem dX0_lettersInCircles_45 : decode cX0_lettersInCircles 45 = .ok (.iload_n 2, 1) := by decide +kernel
theorem dX0_lettersInCircles_46 : decode cX0_lettersInCircles 46 = .ok (.iload_n 1, 1) := by decide +kernel
theorem dX0_lettersInCircles_47 : decode cX0_lettersInCircles 47 = .ok (.if_icmp .ge 86, 3) := by decide +kernel
theorem dX0_lettersInCircles_50 : decode cX0_lettersInCircles 50 = .ok (.iconst 0, 1) := by decide +kernel
theorem dX0_lettersInCircles_51 : decode cX0_lettersInCircles 51 = .ok (.istore_n 3, 1) := by decide +kernel
theorem dX0_lettersInCircles_52 : decode cX0_lettersInCircles 52 = .ok (.iload_n 3, 1) := by decide +kernel
theorem dX0_lettersInCircles_53 : decode cX0_lettersInCircles 53 = .ok (.iload_n 1, 1) := by decide +kernel
theorem dX0_lettersInCircles_54 : decode cX0_lettersInCircles 54 = .ok (.if_icmp .ge 73, 3) := by decide +kernel
theorem dX0_lettersInCircles_57 : decode cX0_lettersInCircles 57 = .ok (.iconst 0, 1) := by decide +kernel
theorem dX0_lettersInCircles_58 : decode cX0_lettersInCircles 58 = .ok (.istore 4, 2) := by decide +kernel
theorem dX0_lettersInCircles_60 : decode cX0_lettersInCircles 60 = .ok (.iload 4, 2) := by decide +kernel
theorem dX0_lettersInCircles_62 : decode cX0_lettersInCircles 62 = .ok (.iload_n 1, 1) := by decide +kernel
theorem dX0_lettersInCircles_63 : decode cX0_lettersInCircles 63 = .ok (.if_icmp .ge 58, 3) := by decide +kernel
theorem dX0_lettersInCircles_66 : decode cX0_lettersInCircles 66 = .ok (.aload_n 0, 1) := by decide +kernel
theorem dX0_lettersInCircles_67 : decode cX0_lettersInCircles 67 = .ok (.getfield 15, 3) := by decide +kernel
theorem dX0_lettersInCircles_70 : decode cX0_lettersInCircles 70 = .ok (.iload_n 3, 1) := by decide +kernel
theorem dX0_lettersInCircles_71 : decode cX0_lettersInCircles 71 = .ok (.bipush 8, 2) := by decide +kernel
theorem dX0_lettersInCircles_73 : decode cX0_lettersInCircles 73 = .ok (.imul, 1) := by decide +kernel
theorem dX0_lettersInCircles_74 : decode cX0_lettersInCircles 74 = .ok (.iload 4, 2) := by decide +kernel
theorem dX0_lettersInCircles_76 : decode cX0_lettersInCircles 76 = .ok (.iadd, 1) := by decide +kernel
theorem dX0_lettersInCircles_77 : decode cX0_lettersInCircles 77 = .ok (.dup2, 1) := by decide +kernel
theorem dX0_lettersInCircles_78 : decode cX0_lettersInCircles 78 = .ok (.baload, 1) := by decide +kernel
theorem dX0_lettersInCircles_79 : decode cX0_lettersInCircles 79 = .ok (.aload_n 0, 1) := by decide +kernel
theorem dX0_lettersInCircles_80 : decode cX0_lettersInCircles 80 = .ok (.getfield 15, 3) := by decide +kernel
theorem dX0_lettersInCircles_83 : decode cX0_lettersInCircles 83 = .ok (.iload_n 3, 1) := by decide +kernel
theorem dX0_lettersInCircles_84 : decode cX0_lettersInCircles 84 = .ok (.bipush 8, 2) := by decide +kernel
theorem dX0_lettersInCircles_86 : decode cX0_lettersInCircles 86 = .ok (.imul, 1) := by decide +kernel
theorem dX0_lettersInCircles_87 : decode cX0_lettersInCircles 87 = .ok (.iload_n 2, 1) := by decide +kernel
theorem dX0_lettersInCircles_88 : decode cX0_lettersInCircles 88 = .ok (.iadd, 1) := by decide +kernel
theorem dX0_lettersInCircles_89 : decode cX0_lettersInCircles 89 = .ok (.baload, 1) := by decide +kernel
theorem dX0_lettersInCircles_90 : decode cX0_lettersInCircles 90 = .ok (.ifCond .eq 22, 3) := by decide +kernel
theorem dX0_lettersInCircles_93 : decode cX0_lettersInCircles 93 = .ok (.aload_n 0, 1) := by decide +kernel
theorem dX0_lettersInCircles_94 : decode cX0_lettersInCircles 94 = .ok (.getfield 15, 3) := by decide +kernel
theorem dX0_lettersInCircles_97 : decode cX0_lettersInCircles 97 = .ok (.iload_n 2, 1) := by decide +kernel
theorem dX0_lettersInCircles_98 : decode cX0_lettersInCircles 98 = .ok (.bipush 8, 2) := by decide +kernel
theorem dX0_lettersInCircles_100 : decode cX0_lettersInCircles 100 = .ok (.imul, 1) := by decide +kernel
theorem dX0_lettersInCircles_101 : decode cX0_lettersInCircles 101 = .ok (.iload 4, 2) := by decide +kernel
theorem dX0_lettersInCircles_103 : decode cX0_lettersInCircles 103 = .ok (.iadd, 1) := by decide +kernel
theorem dX0_lettersInCircles_104 : decode cX0_lettersInCircles 104 = .ok (.baload, 1) := by decide +kernel
theorem dX0_lettersInCircles_105 : decode cX0_lettersInCircles 105 = .ok (.ifCond .eq 7, 3) := by decide +kernel
theorem dX0_lettersInCircles_108 : decode cX0_lettersInCircles 108 = .ok (.iconst 1, 1) := by decide +kernel
theorem dX0_lettersInCircles_109 : decode cX0_lettersInCircles 109 = .ok (.goto 4, 3) := by decide +kernel
theorem dX0_lettersInCircles_112 : decode cX0_lettersInCircles 112 = .ok (.iconst 0, 1) := by decide +kernel
theorem dX0_lettersInCircles_113 : decode cX0_lettersInCircles 113 = .ok (.ior, 1) := by decide +kernel
theorem dX0_lettersInCircles_114 : decode cX0_lettersInCircles 114 = .ok (.bastore, 1) := by decide +kernel
theorem dX0_lettersInCircles_115 : decode cX0_lettersInCircles 115 = .ok (.iinc 4 1, 3) := by decide +kernel
theorem dX0_lettersInCircles_118 : decode cX0_lettersInCircles 118 = .ok (.goto (-58), 3) := by decide +kernel
theorem dX0_lettersInCircles_121 : decode cX0_lettersInCircles 121 = .ok (.iinc 3 1, 3) := by decide +kernel
theorem dX0_lettersInCircles_124 : decode cX0_lettersInCircles 124 = .ok (.goto (-72), 3) := by decide +kernel
theorem dX0_lettersInCircles_127 : decode cX0_lettersInCircles 127 = .ok (.iinc 2 1, 3) := by decide +kernel
theorem dX0_lettersInCircles_130 : decode cX0_lettersInCircles 130 = .ok (.goto (-85), 3) := by decide +kernel
theorem dX0_lettersInCircles_133 : decode cX0_lettersInCircles 133 = .ok (.iconst 0, 1) := by decide +kernel
theorem dX0_lettersInCircles_134 : decode cX0_lettersInCircles 134 = .ok (.istore_n 2, 1) := by decide +kernel
theorem dX0_lettersInCircles_135 : decode cX0_lettersInCircles 135 = .ok (.iconst 0, 1) := by decide +kernel
theorem dX0_lettersInCircles_136 : decode cX0_lettersInCircles 136 = .ok (.istore_n 3, 1) := by decide +kernel
theorem dX0_lettersInCircles_137 : decode cX0_lettersInCircles 137 = .ok (.iload_n 3, 1) := by decide +kernel
theorem dX0_lettersInCircles_138 : decode cX0_lettersInCircles 138 = .ok (.iload_n 1, 1) := by decide +kernel
theorem dX0_lettersInCircles_139 : decode cX0_lettersInCircles 139 = .ok (.if_icmp .ge 31, 3) := by decide +kernel
theorem dX0_lettersInCircles_142 : decode cX0_lettersInCircles 142 = .ok (.iload_n 2, 1) := by decide +kernel
theorem dX0_lettersInCircles_143 : decode cX0_lettersInCircles 143 = .ok (.aload_n 0, 1) := by decide +kernel
theorem dX0_lettersInCircles_144 : decode cX0_lettersInCircles 144 = .ok (.getfield 15, 3) := by decide +kernel
theorem dX0_lettersInCircles_147 : decode cX0_lettersInCircles 147 = .ok (.iload_n 3, 1) := by decide +kernel
theorem dX0_lettersInCircles_148 : decode cX0_lettersInCircles 148 = .ok (.bipush 8, 2) := by decide +kernel
theorem dX0_lettersInCircles_150 : decode cX0_lettersInCircles 150 = .ok (.imul, 1) := by decide +kernel
theorem dX0_lettersInCircles_151 : decode cX0_lettersInCircles 151 = .ok (.iload_n 3, 1) := by decide +kernel
theorem dX0_lettersInCircles_152 : decode cX0_lettersInCircles 152 = .ok (.iadd, 1) := by decide +kernel
theorem dX0_lettersInCircles_153 : decode cX0_lettersInCircles 153 = .ok (.baload, 1) := by decide +kernel
theorem dX0_lettersInCircles_154 : decode cX0_lettersInCircles 154 = .ok (.ifCond .eq 7, 3) := by decide +kernel
theorem dX0_lettersInCircles_157 : decode cX0_lettersInCircles 157 = .ok (.iconst 1, 1) := by decide +kernel
theorem dX0_lettersInCircles_158 : decode cX0_lettersInCircles 158 = .ok (.goto 4, 3) := by decide +kernel
theorem dX0_lettersInCircles_161 : decode cX0_lettersInCircles 161 = .ok (.iconst 0, 1) := by decide +kernel
theorem dX0_lettersInCircles_162 : decode cX0_lettersInCircles 162 = .ok (.iadd, 1) := by decide +kernel
theorem dX0_lettersInCircles_163 : decode cX0_lettersInCircles 163 = .ok (.istore_n 2, 1) := by decide +kernel
theorem dX0_lettersInCircles_164 : decode cX0_lettersInCircles 164 = .ok (.iinc 3 1, 3) := by decide +kernel
theorem dX0_lettersInCircles_167 : decode cX0_lettersInCircles 167 = .ok (.goto (-30), 3) := by decide +kernel
theorem dX0_lettersInCircles_170 : decode cX0_lettersInCircles 170 = .ok (.iload_n 2, 1) := by decide +kernel
theorem dX0_lettersInCircles_171 : decode cX0_lettersInCircles 171 = .ok (.ireturn, 1) := by decide +kernel
theorem dX0_buyCheapest_0 : decode cX0_buyCheapest 0 = .ok (.aload_n 0, 1) := by decide +kernel
theorem dX0_buyCheapest_1 : decode cX0_buyCheapest 1 = .ok (.iconst (-1), 1) := by decide +kernel
theorem dX0_buyCheapest_2 : decode cX0_buyCheapest 2 = .ok (.putfield 40, 3) := by decide +kernel
theorem dX0_buyCheapest_5 : decode cX0_buyCheapest 5 = .ok (.aload_n 0, 1) := by decide +kernel
theorem dX0_buyCheapest_6 : decode cX0_buyCheapest 6 = .ok (.iconst (-1), 1) := by decide +kernel
theorem dX0_buyCheapest_7 : decode cX0_buyCheapest 7 = .ok (.putfield 44, 3) := by decide +kernel
theorem dX0_buyCheapest_10 : decode cX0_buyCheapest 10 = .ok (.aload_n 1, 1) := by decide +kernel
theorem dX0_buyCheapest_11 : decode cX0_buyCheapest 11 = .ok (.getfield 51, 3) := by decide +kernel
theorem dX0_buyCheapest_14 : decode cX0_buyCheapest 14 = .ok (.ifCond .ne 11, 3) := by decide +kernel
theorem dX0_buyCheapest_17 : decode cX0_buyCheapest 17 = .ok (.aload_n 0, 1) := by decide +kernel
theorem dX0_buyCheapest_18 : decode cX0_buyCheapest 18 = .ok (.aload_n 1, 1) := by decide +kernel
theorem dX0_buyCheapest_19 : decode cX0_buyCheapest 19 = .ok (.iload_n 2, 1) := by decide +kernel
theorem dX0_buyCheapest_20 : decode cX0_buyCheapest 20 = .ok (.iload_n 3, 1) := by decide +kernel
theorem dX0_buyCheapest_21 : decode cX0_buyCheapest 21 = .ok (.invokevirtual 105, 3) := by decide +kernel
theorem dX0_buyCheapest_24 : decode cX0_buyCheapest 24 = .ok (.return_, 1) := by decide +kernel
theorem dX0_buyCheapest_25 : decode cX0_buyCheapest 25 = .ok (.aload_n 0, 1) := by decide +kernel
theorem dX0_buyCheapest_26 : decode cX0_buyCheapest 26 = .ok (.aload_n 1, 1) := by decide +kernel
theorem dX0_buyCheapest_27 : decode cX0_buyCheapest 27 = .ok (.invokevirtual 74, 3) := by decide +kernel
theorem dX0_buyCheapest_30 : decode cX0_buyCheapest 30 = .ok (.aload_n 0, 1) := by decide +kernel
theorem dX0_buyCheapest_31 : decode cX0_buyCheapest 31 = .ok (.getfield 9, 3) := by decide +kernel
theorem dX0_buyCheapest_34 : decode cX0_buyCheapest 34 = .ok (.iconst 0, 1) := by decide +kernel
theorem dX0_buyCheapest_35 : decode cX0_buyCheapest 35 = .ok (.aload_n 0, 1) := by decide +kernel
theorem dX0_buyCheapest_36 : decode cX0_buyCheapest 36 = .ok (.getfield 37, 3) := by decide +kernel
theorem dX0_buyCheapest_39 : decode cX0_buyCheapest 39 = .ok (.iconst 0, 1) := by decide +kernel
theorem dX0_buyCheapest_40 : decode cX0_buyCheapest 40 = .ok (.aload_n 0, 1) := by decide +kernel
theorem dX0_buyCheapest_41 : decode cX0_buyCheapest 41 = .ok (.getfield 9, 3) := by decide +kernel
theorem dX0_buyCheapest_44 : decode cX0_buyCheapest 44 = .ok (.arraylength, 1) := by decide +kernel
theorem dX0_buyCheapest_45 : decode cX0_buyCheapest 45 = .ok (.invokestatic 109, 3) := by decide +kernel
theorem dX0_buyCheapest_48 : decode cX0_buyCheapest 48 = .ok (.aload_n 0, 1) := by decide +kernel
theorem dX0_buyCheapest_49 : decode cX0_buyCheapest 49 = .ok (.aload_n 1, 1) := by decide +kernel
theorem dX0_buyCheapest_50 : decode cX0_buyCheapest 50 = .ok (.iload_n 2, 1) := by decide +kernel
theorem dX0_buyCheapest_51 : decode cX0_buyCheapest 51 = .ok (.invokevirtual 115, 3) := by decide +kernel
theorem dX0_buyCheapest_54 : decode cX0_buyCheapest 54 = .ok (.iload 4, 2) := by decide +kernel
theorem dX0_buyCheapest_56 : decode cX0_buyCheapest 56 = .ok (.iconst 2, 1) := by decide +kernel
theorem dX0_buyCheapest_57 : decode cX0_buyCheapest 57 = .ok (.if_icmp .ne 12, 3) := by decide +kernel
theorem dX0_buyCheapest_60 : decode cX0_buyCheapest 60 = .ok (.aload_n 0, 1) := by decide +kernel
theorem dX0_buyCheapest_61 : decode cX0_buyCheapest 61 = .ok (.aload_n 1, 1) := by decide +kernel
theorem dX0_buyCheapest_62 : decode cX0_buyCheapest 62 = .ok (.getfield 56, 3) := by decide +kernel
theorem dX0_buyCheapest_65 : decode cX0_buyCheapest 65 = .ok (.iload_n 2, 1) := by decide +kernel
theorem dX0_buyCheapest_66 : decode cX0_buyCheapest 66 = .ok (.invokevirtual 119, 3) := by decide +kernel
theorem dX0_buyCheapest_69 : decode cX0_buyCheapest 69 = .ok (.iconst 0, 1) := by decide +kernel
theorem dX0_buyCheapest_70 : decode cX0_buyCheapest 70 = .ok (.istore 5, 2) := by decide +kernel
theorem dX0_buyCheapest_72 : decode cX0_buyCheapest 72 = .ok (.iload 5, 2) := by decide +kernel
theorem dX0_buyCheapest_74 : decode cX0_buyCheapest 74 = .ok (.iconst 1, 1) := by decide +kernel
theorem dX0_buyCheapest_75 : decode cX0_buyCheapest 75 = .ok (.aload_n 1, 1) := by decide +kernel
theorem dX0_buyCheapest_76 : decode cX0_buyCheapest 76 = .ok (.getfield 51, 3) := by decide +kernel
theorem dX0_buyCheapest_79 : decode cX0_buyCheapest 79 = .ok (.ishl, 1) := by decide +kernel
theorem dX0_buyCheapest_80 : decode cX0_buyCheapest 80 = .ok (.if_icmp .ge 85, 3) := by decide +kernel
theorem dX0_buyCheapest_83 : decode cX0_buyCheapest 83 = .ok (.aload_n 1, 1) := by decide +kernel
theorem dX0_buyCheapest_84 : decode cX0_buyCheapest 84 = .ok (.iload 5, 2) := by decide +kernel
theorem dX0_buyCheapest_86 : decode cX0_buyCheapest 86 = .ok (.invokestatic 123, 3) := by decide +kernel
theorem dX0_buyCheapest_89 : decode cX0_buyCheapest 89 = .ok (.istore 6, 2) := by decide +kernel
theorem dX0_buyCheapest_91 : decode cX0_buyCheapest 91 = .ok (.aload_n 0, 1) := by decide +kernel
theorem dX0_buyCheapest_92 : decode cX0_buyCheapest 92 = .ok (.iload 5, 2) := by decide +kernel
theorem dX0_buyCheapest_94 : decode cX0_buyCheapest 94 = .ok (.iload 6, 2) := by decide +kernel
theorem dX0_buyCheapest_96 : decode cX0_buyCheapest 96 = .ok (.invokevirtual 127, 3) := by decide +kernel
theorem dX0_buyCheapest_99 : decode cX0_buyCheapest 99 = .ok (.ifCond .eq 60, 3) := by decide +kernel
theorem dX0_buyCheapest_102 : decode cX0_buyCheapest 102 = .ok (.aload_n 0, 1) := by decide +kernel
theorem dX0_buyCheapest_103 : decode cX0_buyCheapest 103 = .ok (.aload_n 1, 1) := by decide +kernel
theorem dX0_buyCheapest_104 : decode cX0_buyCheapest 104 = .ok (.iload 5, 2) := by decide +kernel
theorem dX0_buyCheapest_106 : decode cX0_buyCheapest 106 = .ok (.iload_n 2, 1) := by decide +kernel
theorem dX0_buyCheapest_107 : decode cX0_buyCheapest 107 = .ok (.invokevirtual 130, 3) := by decide +kernel
theorem dX0_buyCheapest_110 : decode cX0_buyCheapest 110 = .ok (.iload 4, 2) := by decide +kernel
theorem dX0_buyCheapest_112 : decode cX0_buyCheapest 112 = .ok (.iconst 2, 1) := by decide +kernel
theorem dX0_buyCheapest_113 : decode cX0_buyCheapest 113 = .ok (.if_icmp .ne 19, 3) := by decide +kernel
theorem dX0_buyCheapest_116 : decode cX0_buyCheapest 116 = .ok (.aload_n 0, 1) := by decide +kernel
theorem dX0_buyCheapest_117 : decode cX0_buyCheapest 117 = .ok (.aload_n 1, 1) := by decide +kernel
theorem dX0_buyCheapest_118 : decode cX0_buyCheapest 118 = .ok (.getfield 56, 3) := by decide +kernel
theorem dX0_buyCheapest_121 : decode cX0_buyCheapest 121 = .ok (.iload_n 2, 1) := by decide +kernel
theorem dX0_buyCheapest_122 : decode cX0_buyCheapest 122 = .ok (.iload_n 3, 1) := by decide +kernel
theorem dX0_buyCheapest_123 : decode cX0_buyCheapest 123 = .ok (.invokevirtual 133, 3) := by decide +kernel
theorem dX0_buyCheapest_126 : decode cX0_buyCheapest 126 = .ok (.ifCond .eq 33, 3) := by decide +kernel
theorem dX0_buyCheapest_129 : decode cX0_buyCheapest 129 = .ok (.goto 18, 3) := by decide +kernel
theorem dX0_buyCheapest_132 : decode cX0_buyCheapest 132 = .ok (.aload_n 0, 1) := by decide +kernel
theorem dX0_buyCheapest_133 : decode cX0_buyCheapest 133 = .ok (.iload_n 2, 1) := by decide +kernel
theorem dX0_buyCheapest_134 : decode cX0_buyCheapest 134 = .ok (.iload_n 3, 1) := by decide +kernel
theorem dX0_buyCheapest_135 : decode cX0_buyCheapest 135 = .ok (.aload_n 1, 1) := by decide +kernel
theorem dX0_buyCheapest_136 : decode cX0_buyCheapest 136 = .ok (.getfield 56, 3) := by decide +kernel
theorem dX0_buyCheapest_139 : decode cX0_buyCheapest 139 = .ok (.iload 4, 2) := by decide +kernel
theorem dX0_buyCheapest_141 : decode cX0_buyCheapest 141 = .ok (.invokevirtual 85, 3) := by decide +kernel
theorem dX0_buyCheapest_144 : decode cX0_buyCheapest 144 = .ok (.ifCond .eq 15, 3) := by decide +kernel
theorem dX0_buyCheapest_147 : decode cX0_buyCheapest 147 = .ok (.aload_n 0, 1) := by decide +kernel
theorem dX0_buyCheapest_148 : decode cX0_buyCheapest 148 = .ok (.iload 5, 2) := by decide +kernel
theorem dX0_buyCheapest_150 : decode cX0_buyCheapest 150 = .ok (.putfield 40, 3) := by decide +kernel
theorem dX0_buyCheapest_153 : decode cX0_buyCheapest 153 = .ok (.aload_n 0, 1) := by decide +kernel
theorem dX0_buyCheapest_154 : decode cX0_buyCheapest 154 = .ok (.iload 6, 2) := by decide +kernel
theorem dX0_buyCheapest_156 : decode cX0_buyCheapest 156 = .ok (.putfield 44, 3) := by decide +kernel
theorem dX0_buyCheapest_159 : decode cX0_buyCheapest 159 = .ok (.iinc 5 1, 3) := by decide +kernel
theorem dX0_buyCheapest_162 : decode cX0_buyCheapest 162 = .ok (.goto (-90), 3) := by decide +kernel
theorem dX0_buyCheapest_165 : decode cX0_buyCheapest 165 = .ok (.return_, 1) := by decide +kernel
theorem dX0_buyWithoutVoters_0 : decode cX0_buyWithoutVoters 0 = .ok (.aload_n 1, 1) := by decide +kernel
theorem dX0_buyWithoutVoters_1 : decode cX0_buyWithoutVoters 1 = .ok (.getfield 71, 3) := by decide +kernel
theorem dX0_buyWithoutVoters_4 : decode cX0_buyWithoutVoters 4 = .ok (.aload_n 1, 1) := by decide +kernel
theorem dX0_buyWithoutVoters_5 : decode cX0_buyWithoutVoters 5 = .ok (.getfield 56, 3) := by decide +kernel
theorem dX0_buyWithoutVoters_8 : decode cX0_buyWithoutVoters 8 = .ok (.iload_n 2, 1) := by decide +kernel
theorem dX0_buyWithoutVoters_9 : decode cX0_buyWithoutVoters 9 = .ok (.invokestatic 137, 3) := by decide +kernel
theorem dX0_buyWithoutVoters_12 : decode cX0_buyWithoutVoters 12 = .ok (.aload_n 1, 1) := by decide +kernel
theorem dX0_buyWithoutVoters_13 : decode cX0_buyWithoutVoters 13 = .ok (.getfield 71, 3) := by decide +kernel
theorem dX0_buyWithoutVoters_16 : decode cX0_buyWithoutVoters 16 = .ok (.aload_n 1, 1) := by decide +kernel
theorem dX0_buyWithoutVoters_17 : decode cX0_buyWithoutVoters 17 = .ok (.getfield 56, 3) := by decide +kernel
theorem dX0_buyWithoutVoters_20 : decode cX0_buyWithoutVoters 20 = .ok (.iload_n 3, 1) := by decide +kernel
theorem dX0_buyWithoutVoters_21 : decode cX0_buyWithoutVoters 21 = .ok (.invokestatic 137, 3) := by decide +kernel
theorem dX0_buyWithoutVoters_24 : decode cX0_buyWithoutVoters 24 = .ok (.if_icmp .ge 13, 3) := by decide +kernel
theorem dX0_buyWithoutVoters_27 : decode cX0_buyWithoutVoters 27 = .ok (.aload_n 0, 1) := by decide +kernel
theorem dX0_buyWithoutVoters_28 : decode cX0_buyWithoutVoters 28 = .ok (.iconst 0, 1) := by decide +kernel
theorem dX0_buyWithoutVoters_29 : decode cX0_buyWithoutVoters 29 = .ok (.putfield 40, 3) := by decide +kernel
theorem dX0_buyWithoutVoters_32 : decode cX0_buyWithoutVoters 32 = .ok (.aload_n 0, 1) := by decide +kernel
theorem dX0_buyWithoutVoters_33 : decode cX0_buyWithoutVoters 33 = .ok (.iconst 0, 1) := by decide +kernel
theorem dX0_buyWithoutVoters_34 : decode cX0_buyWithoutVoters 34 = .ok (.putfield 44, 3) := by decide +kernel
theorem dX0_buyWithoutVoters_37 : decode cX0_buyWithoutVoters 37 = .ok (.return_, 1) := by decide +kernel
theorem dX0_priceOf_0 : decode cX0_priceOf 0 = .ok (.iconst 0, 1) := by decide +kernel
theorem dX0_priceOf_1 : decode cX0_priceOf 1 = .ok (.istore_n 2, 1) := by decide +kernel
theorem dX0_priceOf_2 : decode cX0_priceOf 2 = .ok (.iconst 0, 1) := by decide +kernel
theorem dX0_priceOf_3 : decode cX0_priceOf 3 = .ok (.istore_n 3, 1) := by decide +kernel
theorem dX0_priceOf_4 : decode cX0_priceOf 4 = .ok (.iload_n 3, 1) := by decide +kernel
theorem dX0_priceOf_5 : decode cX0_priceOf 5 = .ok (.aload_n 0, 1) := by decide +kernel
theorem dX0_priceOf_6 : decode cX0_priceOf 6 = .ok (.getfield 51, 3) := by decide +kernel
theorem dX0_priceOf_9 : decode cX0_priceOf 9 = .ok (.if_icmp .ge 24, 3) := by decide +kernel
theorem dX0_priceOf_12 : decode cX0_priceOf 12 = .ok (.iload_n 2, 1) := by decide +kernel
theorem dX0_priceOf_13 : decode cX0_priceOf 13 = .ok (.iload_n 1, 1) := by decide +kernel
theorem dX0_priceOf_14 : decode cX0_priceOf 14 = .ok (.iload_n 3, 1) := by decide +kernel
theorem dX0_priceOf_15 : decode cX0_priceOf 15 = .ok (.ishr, 1) := by decide +kernel
theorem dX0_priceOf_16 : decode cX0_priceOf 16 = .ok (.iconst 1, 1) := by decide +kernel
theorem dX0_priceOf_17 : decode cX0_priceOf 17 = .ok (.iand, 1) := by decide +kernel
theorem dX0_priceOf_18 : decode cX0_priceOf 18 = .ok (.aload_n 0, 1) := by decide +kernel
theorem dX0_priceOf_19 : decode cX0_priceOf 19 = .ok (.getfield 140, 3) := by decide +kernel
theorem dX0_priceOf_22 : decode cX0_priceOf 22 = .ok (.iload_n 3, 1) := by decide +kernel
theorem dX0_priceOf_23 : decode cX0_priceOf 23 = .ok (.iaload, 1) := by decide +kernel
theorem dX0_priceOf_24 : decode cX0_priceOf 24 = .ok (.imul, 1) := by decide +kernel
theorem dX0_priceOf_25 : decode cX0_priceOf 25 = .ok (.iadd, 1) := by decide +kernel
theorem dX0_priceOf_26 : decode cX0_priceOf 26 = .ok (.istore_n 2, 1) := by decide +kernel
theorem dX0_priceOf_27 : decode cX0_priceOf 27 = .ok (.iinc 3 1, 3) := by decide +kernel
theorem dX0_priceOf_30 : decode cX0_priceOf 30 = .ok (.goto (-26), 3) := by decide +kernel
theorem dX0_priceOf_33 : decode cX0_priceOf 33 = .ok (.iload_n 2, 1) := by decide +kernel
theorem dX0_priceOf_34 : decode cX0_priceOf 34 = .ok (.ireturn, 1) := by decide +kernel
theorem dX0_isCheaper_0 : decode cX0_isCheaper 0 = .ok (.aload_n 0, 1) := by decide +kernel
theorem dX0_isCheaper_1 : decode cX0_isCheaper 1 = .ok (.getfield 40, 3) := by decide +kernel
theorem dX0_isCheaper_4 : decode cX0_isCheaper 4 = .ok (.iconst (-1), 1) := by decide +kernel
theorem dX0_isCheaper_5 : decode cX0_isCheaper 5 = .ok (.if_icmp .eq 11, 3) := by decide +kernel
theorem dX0_isCheaper_8 : decode cX0_isCheaper 8 = .ok (.iload_n 2, 1) := by decide +kernel
theorem dX0_isCheaper_9 : decode cX0_isCheaper 9 = .ok (.aload_n 0, 1) := by decide +kernel
theorem dX0_isCheaper_10 : decode cX0_isCheaper 10 = .ok (.getfield 44, 3) := by decide +kernel
theorem dX0_isCheaper_13 : decode cX0_isCheaper 13 = .ok (.if_icmp .eq 25, 3) := by decide +kernel
theorem dX0_isCheaper_16 : decode cX0_isCheaper 16 = .ok (.aload_n 0, 1) := by decide +kernel
theorem dX0_isCheaper_17 : decode cX0_isCheaper 17 = .ok (.getfield 40, 3) := by decide +kernel
theorem dX0_isCheaper_20 : decode cX0_isCheaper 20 = .ok (.iconst (-1), 1) := by decide +kernel
theorem dX0_isCheaper_21 : decode cX0_isCheaper 21 = .ok (.if_icmp .eq 11, 3) := by decide +kernel
theorem dX0_isCheaper_24 : decode cX0_isCheaper 24 = .ok (.iload_n 2, 1) := by decide +kernel
theorem dX0_isCheaper_25 : decode cX0_isCheaper 25 = .ok (.aload_n 0, 1) := by decide +kernel
theorem dX0_isCheaper_26 : decode cX0_isCheaper 26 = .ok (.getfield 44, 3) := by decide +kernel
theorem dX0_isCheaper_29 : decode cX0_isCheaper 29 = .ok (.if_icmp .ge 7, 3) := by decide +kernel
theorem dX0_isCheaper_32 : decode cX0_isCheaper 32 = .ok (.iconst 1, 1) := by decide +kernel
theorem dX0_isCheaper_33 : decode cX0_isCheaper 33 = .ok (.goto 4, 3) := by decide +kernel
theorem dX0_isCheaper_36 : decode cX0_isCheaper 36 = .ok (.iconst 0, 1) := by decide +kernel
theorem dX0_isCheaper_37 : decode cX0_isCheaper 37 = .ok (.ireturn, 1) := by decide +kernel
theorem dX0_isCheaper_38 : decode cX0_isCheaper 38 = .ok (.iload_n 1, 1) := by decide +kernel
theorem dX0_isCheaper_39 : decode cX0_isCheaper 39 = .ok (.invokestatic 96, 3) := by decide +kernel
theorem dX0_isCheaper_42 : decode cX0_isCheaper 42 = .ok (.aload_n 0, 1) := by decide +kernel
theorem dX0_isCheaper_43 : decode cX0_isCheaper 43 = .ok (.getfield 40, 3) := by decide +kernel
theorem dX0_isCheaper_46 : decode cX0_isCheaper 46 = .ok (.invokestatic 96, 3) := by decide +kernel
theorem dX0_isCheaper_49 : decode cX0_isCheaper 49 = .ok (.if_icmp .ge 7, 3) := by decide +kernel
theorem dX0_isCheaper_52 : decode cX0_isCheaper 52 = .ok (.iconst 1, 1) := by decide +kernel
theorem dX0_isCheaper_53 : decode cX0_isCheaper 53 = .ok (.goto 4, 3) := by decide +kernel
theorem dX0_isCheaper_56 : decode cX0_isCheaper 56 = .ok (.iconst 0, 1) := by decide +kernel
theorem dX0_isCheaper_57 : decode cX0_isCheaper 57 = .ok (.ireturn, 1) := by decide +kernel
theorem dX0_notePassed_0 : decode cX0_notePassed 0 = .ok (.iconst 0, 1) := by decide +kernel
theorem dX0_notePassed_1 : decode cX0_notePassed 1 = .ok (.istore_n 3, 1) := by decide +kernel
theorem dX0_notePassed_2 : decode cX0_notePassed 2 = .ok (.iload_n 3, 1) := by decide +kernel
theorem dX0_notePassed_3 : decode cX0_notePassed 3 = .ok (.aload_n 1, 1) := by decide +kernel
theorem dX0_notePassed_4 : decode cX0_notePassed 4 = .ok (.getfield 51, 3) := by decide +kernel
theorem dX0_notePassed_7 : decode cX0_notePassed 7 = .ok (.if_icmp .ge 90, 3) := by decide +kernel
theorem dX0_notePassed_10 : decode cX0_notePassed 10 = .ok (.iconst 1, 1) := by decide +kernel
theorem dX0_notePassed_11 : decode cX0_notePassed 11 = .ok (.istore 4, 2) := by decide +kernel
theorem dX0_notePassed_13 : decode cX0_notePassed 13 = .ok (.iconst 0, 1) := by decide +kernel
theorem dX0_notePassed_14 : decode cX0_notePassed 14 = .ok (.istore 5, 2) := by decide +kernel
theorem dX0_notePassed_16 : decode cX0_notePassed 16 = .ok (.iload 5, 2) := by decide +kernel
theorem dX0_notePassed_18 : decode cX0_notePassed 18 = .ok (.aload_n 1, 1) := by decide +kernel
theorem dX0_notePassed_19 : decode cX0_notePassed 19 = .ok (.getfield 56, 3) := by decide +kernel
theorem dX0_notePassed_22 : decode cX0_notePassed 22 = .ok (.if_icmp .ge 69, 3) := by decide +kernel
theorem dX0_notePassed_25 : decode cX0_notePassed 25 = .ok (.aload_n 1, 1) := by decide +kernel
theorem dX0_notePassed_26 : decode cX0_notePassed 26 = .ok (.getfield 59, 3) := by decide +kernel
theorem dX0_notePassed_29 : decode cX0_notePassed 29 = .ok (.iload_n 3, 1) := by decide +kernel
theorem dX0_notePassed_30 : decode cX0_notePassed 30 = .ok (.iaload, 1) := by decide +kernel
theorem dX0_notePassed_31 : decode cX0_notePassed 31 = .ok (.aload_n 1, 1) := by decide +kernel
theorem dX0_notePassed_32 : decode cX0_notePassed 32 = .ok (.getfield 56, 3) := by decide +kernel
theorem dX0_notePassed_35 : decode cX0_notePassed 35 = .ok (.iload 5, 2) := by decide +kernel
theorem dX0_notePassed_37 : decode cX0_notePassed 37 = .ok (.invokestatic 62, 3) := by decide +kernel
theorem dX0_notePassed_40 : decode cX0_notePassed 40 = .ok (.istore 6, 2) := by decide +kernel
theorem dX0_notePassed_42 : decode cX0_notePassed 42 = .ok (.iload 4, 2) := by decide +kernel
theorem dX0_notePassed_44 : decode cX0_notePassed 44 = .ok (.iload 6, 2) := by decide +kernel
theorem dX0_notePassed_46 : decode cX0_notePassed 46 = .ok (.iload_n 2, 1) := by decide +kernel
theorem dX0_notePassed_47 : decode cX0_notePassed 47 = .ok (.if_icmp .eq 7, 3) := by decide +kernel
theorem dX0_notePassed_50 : decode cX0_notePassed 50 = .ok (.iconst 1, 1) := by decide +kernel
theorem dX0_notePassed_51 : decode cX0_notePassed 51 = .ok (.goto 4, 3) := by decide +kernel
theorem dX0_notePassed_54 : decode cX0_notePassed 54 = .ok (.iconst 0, 1) := by decide +kernel
theorem dX0_notePassed_55 : decode cX0_notePassed 55 = .ok (.iand, 1) := by decide +kernel
theorem dX0_notePassed_56 : decode cX0_notePassed 56 = .ok (.istore 4, 2) := by decide +kernel
theorem dX0_notePassed_58 : decode cX0_notePassed 58 = .ok (.aload_n 0, 1) := by decide +kernel
theorem dX0_notePassed_59 : decode cX0_notePassed 59 = .ok (.getfield 34, 3) := by decide +kernel
theorem dX0_notePassed_62 : decode cX0_notePassed 62 = .ok (.iload_n 3, 1) := by decide +kernel
theorem dX0_notePassed_63 : decode cX0_notePassed 63 = .ok (.bipush 8, 2) := by decide +kernel
theorem dX0_notePassed_65 : decode cX0_notePassed 65 = .ok (.imul, 1) := by decide +kernel
theorem dX0_notePassed_66 : decode cX0_notePassed 66 = .ok (.iload 6, 2) := by decide +kernel
theorem dX0_notePassed_68 : decode cX0_notePassed 68 = .ok (.iadd, 1) := by decide +kernel
theorem dX0_notePassed_69 : decode cX0_notePassed 69 = .ok (.iload 4, 2) := by decide +kernel
theorem dX0_notePassed_71 : decode cX0_notePassed 71 = .ok (.ifCond .eq 12, 3) := by decide +kernel
theorem dX0_notePassed_74 : decode cX0_notePassed 74 = .ok (.aload_n 1, 1) := by decide +kernel
theorem dX0_notePassed_75 : decode cX0_notePassed 75 = .ok (.getfield 68, 3) := by decide +kernel
theorem dX0_notePassed_78 : decode cX0_notePassed 78 = .ok (.iload_n 3, 1) := by decide +kernel
theorem dX0_notePassed_79 : decode cX0_notePassed 79 = .ok (.iaload, 1) := by decide +kernel
theorem dX0_notePassed_80 : decode cX0_notePassed 80 = .ok (.goto 4, 3) := by decide +kernel
theorem dX0_notePassed_83 : decode cX0_notePassed 83 = .ok (.iconst 0, 1) := by decide +kernel
theorem dX0_notePassed_84 : decode cX0_notePassed 84 = .ok (.iastore, 1) := by decide +kernel
theorem dX0_notePassed_85 : decode cX0_notePassed 85 = .ok (.iinc 5 1, 3) := by decide +kernel
theorem dX0_notePassed_88 : decode cX0_notePassed 88 = .ok (.goto (-72), 3) := by decide +kernel
theorem dX0_notePassed_91 : decode cX0_notePassed 91 = .ok (.iinc 3 1, 3) := by decide +kernel
theorem dX0_notePassed_94 : decode cX0_notePassed 94 = .ok (.goto (-92), 3) := by decide +kernel
theorem dX0_notePassed_97 : decode cX0_notePassed 97 = .ok (.return_, 1) := by decide +kernel
theorem dX0_sway_0 : decode cX0_sway 0 = .ok (.iconst 0, 1) := by decide +kernel
theorem dX0_sway_1 : decode cX0_sway 1 = .ok (.istore 4, 2) := by decide +kernel
theorem dX0_sway_3 : decode cX0_sway 3 = .ok (.iload 4, 2) := by decide +kernel
theorem dX0_sway_5 : decode cX0_sway 5 = .ok (.aload_n 1, 1) := by decide +kernel
theorem dX0_sway_6 : decode cX0_sway 6 = .ok (.getfield 56, 3) := by decide +kernel
theorem dX0_sway_9 : decode cX0_sway 9 = .ok (.if_icmp .ge 109, 3) := by decide +kernel
theorem dX0_sway_12 : decode cX0_sway 12 = .ok (.iconst 0, 1) := by decide +kernel
theorem dX0_sway_13 : decode cX0_sway 13 = .ok (.istore 5, 2) := by decide +kernel
theorem dX0_sway_15 : decode cX0_sway 15 = .ok (.iconst 0, 1) := by decide +kernel
theorem dX0_sway_16 : decode cX0_sway 16 = .ok (.istore 6, 2) := by decide +kernel
theorem dX0_sway_18 : decode cX0_sway 18 = .ok (.iload 6, 2) := by decide +kernel
theorem dX0_sway_20 : decode cX0_sway 20 = .ok (.aload_n 1, 1) := by decide +kernel
theorem dX0_sway_21 : decode cX0_sway 21 = .ok (.getfield 51, 3) := by decide +kernel
theorem dX0_sway_24 : decode cX0_sway 24 = .ok (.if_icmp .ge 34, 3) := by decide +kernel
theorem dX0_sway_27 : decode cX0_sway 27 = .ok (.iload 5, 2) := by decide +kernel
theorem dX0_sway_29 : decode cX0_sway 29 = .ok (.iload_n 2, 1) := by decide +kernel
theorem dX0_sway_30 : decode cX0_sway 30 = .ok (.iload 6, 2) := by decide +kernel
theorem dX0_sway_32 : decode cX0_sway 32 = .ok (.ishr, 1) := by decide +kernel
theorem dX0_sway_33 : decode cX0_sway 33 = .ok (.iconst 1, 1) := by decide +kernel
theorem dX0_sway_34 : decode cX0_sway 34 = .ok (.iand, 1) := by decide +kernel
theorem dX0_sway_35 : decode cX0_sway 35 = .ok (.aload_n 0, 1) := by decide +kernel
theorem dX0_sway_36 : decode cX0_sway 36 = .ok (.getfield 34, 3) := by decide +kernel
theorem dX0_sway_39 : decode cX0_sway 39 = .ok (.iload 6, 2) := by decide +kernel
theorem dX0_sway_41 : decode cX0_sway 41 = .ok (.bipush 8, 2) := by decide +kernel
theorem dX0_sway_43 : decode cX0_sway 43 = .ok (.imul, 1) := by decide +kernel
theorem dX0_sway_44 : decode cX0_sway 44 = .ok (.iload 4, 2) := by decide +kernel
theorem dX0_sway_46 : decode cX0_sway 46 = .ok (.iadd, 1) := by decide +kernel
theorem dX0_sway_47 : decode cX0_sway 47 = .ok (.iaload, 1) := by decide +kernel
theorem dX0_sway_48 : decode cX0_sway 48 = .ok (.imul, 1) := by decide +kernel
theorem dX0_sway_49 : decode cX0_sway 49 = .ok (.iadd, 1) := by decide +kernel
theorem dX0_sway_50 : decode cX0_sway 50 = .ok (.istore 5, 2) := by decide +kernel
theorem dX0_sway_52 : decode cX0_sway 52 = .ok (.iinc 6 1, 3) := by decide +kernel
theorem dX0_sway_55 : decode cX0_sway 55 = .ok (.goto (-37), 3) := by decide +kernel
theorem dX0_sway_58 : decode cX0_sway 58 = .ok (.aload_n 0, 1) := by decide +kernel
theorem dX0_sway_59 : decode cX0_sway 59 = .ok (.getfield 9, 3) := by decide +kernel
theorem dX0_sway_62 : decode cX0_sway 62 = .ok (.iload_n 3, 1) := by decide +kernel
theorem dX0_sway_63 : decode cX0_sway 63 = .ok (.bipush 8, 2) := by decide +kernel
theorem dX0_sway_65 : decode cX0_sway 65 = .ok (.imul, 1) := by decide +kernel
theorem dX0_sway_66 : decode cX0_sway 66 = .ok (.iload 4, 2) := by decide +kernel
theorem dX0_sway_68 : decode cX0_sway 68 = .ok (.iadd, 1) := by decide +kernel
theorem dX0_sway_69 : decode cX0_sway 69 = .ok (.aload_n 0, 1) := by decide +kernel
theorem dX0_sway_70 : decode cX0_sway 70 = .ok (.getfield 37, 3) := by decide +kernel
theorem dX0_sway_73 : decode cX0_sway 73 = .ok (.iload_n 3, 1) := by decide +kernel
theorem dX0_sway_74 : decode cX0_sway 74 = .ok (.bipush 8, 2) := by decide +kernel
theorem dX0_sway_76 : decode cX0_sway 76 = .ok (.imul, 1) := by decide +kernel
theorem dX0_sway_77 : decode cX0_sway 77 = .ok (.iload 4, 2) := by decide +kernel
theorem dX0_sway_79 : decode cX0_sway 79 = .ok (.iadd, 1) := by decide +kernel
theorem dX0_sway_80 : decode cX0_sway 80 = .ok (.iaload, 1) := by decide +kernel
theorem dX0_sway_81 : decode cX0_sway 81 = .ok (.iload 5, 2) := by decide +kernel
theorem dX0_sway_83 : decode cX0_sway 83 = .ok (.iadd, 1) := by decide +kernel
theorem dX0_sway_84 : decode cX0_sway 84 = .ok (.iastore, 1) := by decide +kernel
theorem dX0_sway_85 : decode cX0_sway 85 = .ok (.aload_n 0, 1) := by decide +kernel
theorem dX0_sway_86 : decode cX0_sway 86 = .ok (.getfield 9, 3) := by decide +kernel
theorem dX0_sway_89 : decode cX0_sway 89 = .ok (.iload 4, 2) := by decide +kernel
theorem dX0_sway_91 : decode cX0_sway 91 = .ok (.bipush 8, 2) := by decide +kernel
theorem dX0_sway_93 : decode cX0_sway 93 = .ok (.imul, 1) := by decide +kernel
theorem dX0_sway_94 : decode cX0_sway 94 = .ok (.iload_n 3, 1) := by decide +kernel
theorem dX0_sway_95 : decode cX0_sway 95 = .ok (.iadd, 1) := by decide +kernel
theorem dX0_sway_96 : decode cX0_sway 96 = .ok (.aload_n 0, 1) := by decide +kernel
theorem dX0_sway_97 : decode cX0_sway 97 = .ok (.getfield 37, 3) := by decide +kernel
theorem dX0_sway_100 : decode cX0_sway 100 = .ok (.iload 4, 2) := by decide +kernel
theorem dX0_sway_102 : decode cX0_sway 102 = .ok (.bipush 8, 2) := by decide +kernel
theorem dX0_sway_104 : decode cX0_sway 104 = .ok (.imul, 1) := by decide +kernel
theorem dX0_sway_105 : decode cX0_sway 105 = .ok (.iload_n 3, 1) := by decide +kernel
theorem dX0_sway_106 : decode cX0_sway 106 = .ok (.iadd, 1) := by decide +kernel
theorem dX0_sway_107 : decode cX0_sway 107 = .ok (.iaload, 1) := by decide +kernel
theorem dX0_sway_108 : decode cX0_sway 108 = .ok (.iload 5, 2) := by decide +kernel
theorem dX0_sway_110 : decode cX0_sway 110 = .ok (.isub, 1) := by decide +kernel
theorem dX0_sway_111 : decode cX0_sway 111 = .ok (.iastore, 1) := by decide +kernel
theorem dX0_sway_112 : decode cX0_sway 112 = .ok (.iinc 4 1, 3) := by decide +kernel
theorem dX0_sway_115 : decode cX0_sway 115 = .ok (.goto (-112), 3) := by decide +kernel
theorem dX0_sway_118 : decode cX0_sway 118 = .ok (.return_, 1) := by decide +kernel
theorem dX0_splitAround_0 : decode cX0_splitAround 0 = .ok (.aload_n 0, 1) := by decide +kernel
theorem dX0_splitAround_1 : decode cX0_splitAround 1 = .ok (.iload_n 1, 1) := by decide +kernel
theorem dX0_splitAround_2 : decode cX0_splitAround 2 = .ok (.invokevirtual 78, 3) := by decide +kernel
theorem dX0_splitAround_5 : decode cX0_splitAround 5 = .ok (.iconst 1, 1) := by decide +kernel
theorem dX0_splitAround_6 : decode cX0_splitAround 6 = .ok (.iload_n 1, 1) := by decide +kernel
theorem dX0_splitAround_7 : decode cX0_splitAround 7 = .ok (.ishl, 1) := by decide +kernel
theorem dX0_splitAround_8 : decode cX0_splitAround 8 = .ok (.iconst 1, 1) := by decide +kernel
theorem dX0_splitAround_9 : decode cX0_splitAround 9 = .ok (.isub, 1) := by decide +kernel
theorem dX0_splitAround_10 : decode cX0_splitAround 10 = .ok (.iconst 1, 1) := by decide +kernel
theorem dX0_splitAround_11 : decode cX0_splitAround 11 = .ok (.iload_n 2, 1) := by decide +kernel
theorem dX0_splitAround_12 : decode cX0_splitAround 12 = .ok (.ishl, 1) := by decide +kernel
theorem dX0_splitAround_13 : decode cX0_splitAround 13 = .ok (.iconst (-1), 1) := by decide +kernel
theorem dX0_splitAround_14 : decode cX0_splitAround 14 = .ok (.ixor, 1) := by decide +kernel
theorem dX0_splitAround_15 : decode cX0_splitAround 15 = .ok (.iand, 1) := by decide +kernel
theorem dX0_splitAround_16 : decode cX0_splitAround 16 = .ok (.istore_n 3, 1) := by decide +kernel
theorem dX0_splitAround_17 : decode cX0_splitAround 17 = .ok (.iconst 0, 1) := by decide +kernel
theorem dX0_splitAround_18 : decode cX0_splitAround 18 = .ok (.istore 4, 2) := by decide +kernel
theorem dX0_splitAround_20 : decode cX0_splitAround 20 = .ok (.iload 4, 2) := by decide +kernel
theorem dX0_splitAround_22 : decode cX0_splitAround 22 = .ok (.iload_n 3, 1) := by decide +kernel
theorem dX0_splitAround_23 : decode cX0_splitAround 23 = .ok (.if_icmp .gt 99, 3) := by decide +kernel
theorem dX0_splitAround_26 : decode cX0_splitAround 26 = .ok (.iload 4, 2) := by decide +kernel
theorem dX0_splitAround_28 : decode cX0_splitAround 28 = .ok (.iload_n 3, 1) := by decide +kernel
theorem dX0_splitAround_29 : decode cX0_splitAround 29 = .ok (.iconst (-1), 1) := by decide +kernel
theorem dX0_splitAround_30 : decode cX0_splitAround 30 = .ok (.ixor, 1) := by decide +kernel
theorem dX0_splitAround_31 : decode cX0_splitAround 31 = .ok (.iand, 1) := by decide +kernel
theorem dX0_splitAround_32 : decode cX0_splitAround 32 = .ok (.ifCond .ne 84, 3) := by decide +kernel
theorem dX0_splitAround_35 : decode cX0_splitAround 35 = .ok (.iload_n 3, 1) := by decide +kernel
theorem dX0_splitAround_36 : decode cX0_splitAround 36 = .ok (.iload 4, 2) := by decide +kernel
theorem dX0_splitAround_38 : decode cX0_splitAround 38 = .ok (.iconst (-1), 1) := by decide +kernel
theorem dX0_splitAround_39 : decode cX0_splitAround 39 = .ok (.ixor, 1) := by decide +kernel
theorem dX0_splitAround_40 : decode cX0_splitAround 40 = .ok (.iand, 1) := by decide +kernel
theorem dX0_splitAround_41 : decode cX0_splitAround 41 = .ok (.istore 5, 2) := by decide +kernel
theorem dX0_splitAround_43 : decode cX0_splitAround 43 = .ok (.iconst 3, 1) := by decide +kernel
theorem dX0_splitAround_44 : decode cX0_splitAround 44 = .ok (.iload 5, 2) := by decide +kernel
theorem dX0_splitAround_46 : decode cX0_splitAround 46 = .ok (.invokestatic 96, 3) := by decide +kernel
theorem dX0_splitAround_49 : decode cX0_splitAround 49 = .ok (.imul, 1) := by decide +kernel
theorem dX0_splitAround_50 : decode cX0_splitAround 50 = .ok (.istore 6, 2) := by decide +kernel
theorem dX0_splitAround_52 : decode cX0_splitAround 52 = .ok (.aload_n 0, 1) := by decide +kernel
theorem dX0_splitAround_53 : decode cX0_splitAround 53 = .ok (.getfield 25, 3) := by decide +kernel
theorem dX0_splitAround_56 : decode cX0_splitAround 56 = .ok (.iload 4, 2) := by decide +kernel
theorem dX0_splitAround_58 : decode cX0_splitAround 58 = .ok (.aload_n 0, 1) := by decide +kernel
theorem dX0_splitAround_59 : decode cX0_splitAround 59 = .ok (.getfield 19, 3) := by decide +kernel
theorem dX0_splitAround_62 : decode cX0_splitAround 62 = .ok (.iload 4, 2) := by decide +kernel
theorem dX0_splitAround_64 : decode cX0_splitAround 64 = .ok (.iaload, 1) := by decide +kernel
theorem dX0_splitAround_65 : decode cX0_splitAround 65 = .ok (.aload_n 0, 1) := by decide +kernel
theorem dX0_splitAround_66 : decode cX0_splitAround 66 = .ok (.getfield 19, 3) := by decide +kernel
theorem dX0_splitAround_69 : decode cX0_splitAround 69 = .ok (.iload 5, 2) := by decide +kernel
theorem dX0_splitAround_71 : decode cX0_splitAround 71 = .ok (.iaload, 1) := by decide +kernel
theorem dX0_splitAround_72 : decode cX0_splitAround 72 = .ok (.iadd, 1) := by decide +kernel
theorem dX0_splitAround_73 : decode cX0_splitAround 73 = .ok (.aload_n 0, 1) := by decide +kernel
theorem dX0_splitAround_74 : decode cX0_splitAround 74 = .ok (.iload 4, 2) := by decide +kernel
theorem dX0_splitAround_76 : decode cX0_splitAround 76 = .ok (.iload 5, 2) := by decide +kernel
theorem dX0_splitAround_78 : decode cX0_splitAround 78 = .ok (.iload_n 1, 1) := by decide +kernel
theorem dX0_splitAround_79 : decode cX0_splitAround 79 = .ok (.invokevirtual 143, 3) := by decide +kernel
theorem dX0_splitAround_82 : decode cX0_splitAround 82 = .ok (.iadd, 1) := by decide +kernel
theorem dX0_splitAround_83 : decode cX0_splitAround 83 = .ok (.iastore, 1) := by decide +kernel
theorem dX0_splitAround_84 : decode cX0_splitAround 84 = .ok (.aload_n 0, 1) := by decide +kernel
theorem dX0_splitAround_85 : decode cX0_splitAround 85 = .ok (.getfield 28, 3) := by decide +kernel
theorem dX0_splitAround_88 : decode cX0_splitAround 88 = .ok (.iload 4, 2) := by decide +kernel
theorem dX0_splitAround_90 : decode cX0_splitAround 90 = .ok (.aload_n 0, 1) := by decide +kernel
theorem dX0_splitAround_91 : decode cX0_splitAround 91 = .ok (.getfield 22, 3) := by decide +kernel
theorem dX0_splitAround_94 : decode cX0_splitAround 94 = .ok (.iload 4, 2) := by decide +kernel
theorem dX0_splitAround_96 : decode cX0_splitAround 96 = .ok (.iaload, 1) := by decide +kernel
theorem dX0_splitAround_97 : decode cX0_splitAround 97 = .ok (.iload 6, 2) := by decide +kernel
theorem dX0_splitAround_99 : decode cX0_splitAround 99 = .ok (.iconst 3, 1) := by decide +kernel
theorem dX0_splitAround_100 : decode cX0_splitAround 100 = .ok (.iadd, 1) := by decide +kernel
theorem dX0_splitAround_101 : decode cX0_splitAround 101 = .ok (.ishl, 1) := by decide +kernel
theorem dX0_splitAround_102 : decode cX0_splitAround 102 = .ok (.iload_n 2, 1) := by decide +kernel
theorem dX0_splitAround_103 : decode cX0_splitAround 103 = .ok (.iload 6, 2) := by decide +kernel
theorem dX0_splitAround_105 : decode cX0_splitAround 105 = .ok (.ishl, 1) := by decide +kernel
theorem dX0_splitAround_106 : decode cX0_splitAround 106 = .ok (.ior, 1) := by decide +kernel
theorem dX0_splitAround_107 : decode cX0_splitAround 107 = .ok (.aload_n 0, 1) := by decide +kernel
theorem dX0_splitAround_108 : decode cX0_splitAround 108 = .ok (.getfield 22, 3) := by decide +kernel
theorem dX0_splitAround_111 : decode cX0_splitAround 111 = .ok (.iload 5, 2) := by decide +kernel
theorem dX0_splitAround_113 : decode cX0_splitAround 113 = .ok (.iaload, 1) := by decide +kernel
theorem dX0_splitAround_114 : decode cX0_splitAround 114 = .ok (.ior, 1) := by decide +kernel
theorem dX0_splitAround_115 : decode cX0_splitAround 115 = .ok (.iastore, 1) := by decide +kernel
theorem dX0_splitAround_116 : decode cX0_splitAround 116 = .ok (.iinc 4 1, 3) := by decide +kernel
theorem dX0_splitAround_119 : decode cX0_splitAround 119 = .ok (.goto (-99), 3) := by decide +kernel
theorem dX0_splitAround_122 : decode cX0_splitAround 122 = .ok (.return_, 1) := by decide +kernel
theorem dX0_supportAcross_0 : decode cX0_supportAcross 0 = .ok (.iconst 0, 1) := by decide +kernel
theorem dX0_supportAcross_1 : decode cX0_supportAcross 1 = .ok (.istore 4, 2) := by decide +kernel
theorem dX0_supportAcross_3 : decode cX0_supportAcross 3 = .ok (.iconst 0, 1) := by decide +kernel
theorem dX0_supportAcross_4 : decode cX0_supportAcross 4 = .ok (.istore 5, 2) := by decide +kernel
theorem dX0_supportAcross_6 : decode cX0_supportAcross 6 = .ok (.iload 5, 2) := by decide +kernel
theorem dX0_supportAcross_8 : decode cX0_supportAcross 8 = .ok (.iload_n 3, 1) := by decide +kernel
theorem dX0_supportAcross_9 : decode cX0_supportAcross 9 = .ok (.if_icmp .ge 32, 3) := by decide +kernel
theorem dX0_supportAcross_12 : decode cX0_supportAcross 12 = .ok (.iload_n 1, 1) := by decide +kernel
theorem dX0_supportAcross_13 : decode cX0_supportAcross 13 = .ok (.iload 5, 2) := by decide +kernel
theorem dX0_supportAcross_15 : decode cX0_supportAcross 15 = .ok (.ishr, 1) := by decide +kernel
theorem dX0_supportAcross_16 : decode cX0_supportAcross 16 = .ok (.iconst 1, 1) := by decide +kernel
theorem dX0_supportAcross_17 : decode cX0_supportAcross 17 = .ok (.iand, 1) := by decide +kernel
theorem dX0_supportAcross_18 : decode cX0_supportAcross 18 = .ok (.iconst 1, 1) := by decide +kernel
theorem dX0_supportAcross_19 : decode cX0_supportAcross 19 = .ok (.if_icmp .ne 16, 3) := by decide +kernel
theorem dX0_supportAcross_22 : decode cX0_supportAcross 22 = .ok (.iload 4, 2) := by decide +kernel
theorem dX0_supportAcross_24 : decode cX0_supportAcross 24 = .ok (.aload_n 0, 1) := by decide +kernel
theorem dX0_supportAcross_25 : decode cX0_supportAcross 25 = .ok (.iload 5, 2) := by decide +kernel
theorem dX0_supportAcross_27 : decode cX0_supportAcross 27 = .ok (.iload_n 2, 1) := by decide +kernel
theorem dX0_supportAcross_28 : decode cX0_supportAcross 28 = .ok (.iload_n 3, 1) := by decide +kernel
theorem dX0_supportAcross_29 : decode cX0_supportAcross 29 = .ok (.invokevirtual 102, 3) := by decide +kernel
theorem dX0_supportAcross_32 : decode cX0_supportAcross 32 = .ok (.iadd, 1) := by decide +kernel
theorem dX0_supportAcross_33 : decode cX0_supportAcross 33 = .ok (.istore 4, 2) := by decide +kernel
theorem dX0_supportAcross_35 : decode cX0_supportAcross 35 = .ok (.iinc 5 1, 3) := by decide +kernel
theorem dX0_supportAcross_38 : decode cX0_supportAcross 38 = .ok (.goto (-32), 3) := by decide +kernel
theorem dX0_supportAcross_41 : decode cX0_supportAcross 41 = .ok (.iload 4, 2) := by decide +kernel
theorem dX0_supportAcross_43 : decode cX0_supportAcross 43 = .ok (.ireturn, 1) := by decide +kernel
theorem dX0_isAheadByNearest_0 : decode cX0_isAheadByNearest 0 = .ok (.iconst 1, 1) := by decide +kernel
theorem dX0_isAheadByNearest_1 : decode cX0_isAheadByNearest 1 = .ok (.iload_n 1, 1) := by decide +kernel
theorem dX0_isAheadByNearest_2 : decode cX0_isAheadByNearest 2 = .ok (.ishl, 1) := by decide +kernel
theorem dX0_isAheadByNearest_3 : decode cX0_isAheadByNearest 3 = .ok (.iconst 1, 1) := by decide +kernel
theorem dX0_isAheadByNearest_4 : decode cX0_isAheadByNearest 4 = .ok (.isub, 1) := by decide +kernel
theorem dX0_isAheadByNearest_5 : decode cX0_isAheadByNearest 5 = .ok (.iconst 1, 1) := by decide +kernel
theorem dX0_isAheadByNearest_6 : decode cX0_isAheadByNearest 6 = .ok (.iload_n 2, 1) := by decide +kernel
theorem dX0_isAheadByNearest_7 : decode cX0_isAheadByNearest 7 = .ok (.ishl, 1) := by decide +kernel
theorem dX0_isAheadByNearest_8 : decode cX0_isAheadByNearest 8 = .ok (.iconst (-1), 1) := by decide +kernel
theorem dX0_isAheadByNearest_9 : decode cX0_isAheadByNearest 9 = .ok (.ixor, 1) := by decide +kernel
theorem dX0_isAheadByNearest_10 : decode cX0_isAheadByNearest 10 = .ok (.iand, 1) := by decide +kernel
theorem dX0_isAheadByNearest_11 : decode cX0_isAheadByNearest 11 = .ok (.istore 4, 2) := by decide +kernel
theorem dX0_isAheadByNearest_13 : decode cX0_isAheadByNearest 13 = .ok (.iconst 0, 1) := by decide +kernel
theorem dX0_isAheadByNearest_14 : decode cX0_isAheadByNearest 14 = .ok (.istore 5, 2) := by decide +kernel
theorem dX0_isAheadByNearest_16 : decode cX0_isAheadByNearest 16 = .ok (.aload_n 0, 1) := by decide +kernel
theorem dX0_isAheadByNearest_17 : decode cX0_isAheadByNearest 17 = .ok (.getfield 31, 3) := by decide +kernel
theorem dX0_isAheadByNearest_20 : decode cX0_isAheadByNearest 20 = .ok (.iconst 0, 1) := by decide +kernel
theorem dX0_isAheadByNearest_21 : decode cX0_isAheadByNearest 21 = .ok (.iconst 0, 1) := by decide +kernel
theorem dX0_isAheadByNearest_22 : decode cX0_isAheadByNearest 22 = .ok (.iastore, 1) := by decide +kernel
theorem dX0_isAheadByNearest_23 : decode cX0_isAheadByNearest 23 = .ok (.iconst 1, 1) := by decide +kernel
theorem dX0_isAheadByNearest_24 : decode cX0_isAheadByNearest 24 = .ok (.istore 6, 2) := by decide +kernel
theorem dX0_isAheadByNearest_26 : decode cX0_isAheadByNearest 26 = .ok (.iload 6, 2) := by decide +kernel
theorem dX0_isAheadByNearest_28 : decode cX0_isAheadByNearest 28 = .ok (.iload 4, 2) := by decide +kernel
theorem dX0_isAheadByNearest_30 : decode cX0_isAheadByNearest 30 = .ok (.if_icmp .gt 97, 3) := by decide +kernel
theorem dX0_isAheadByNearest_33 : decode cX0_isAheadByNearest 33 = .ok (.iload 6, 2) := by decide +kernel
theorem dX0_isAheadByNearest_35 : decode cX0_isAheadByNearest 35 = .ok (.iload 4, 2) := by decide +kernel
theorem dX0_isAheadByNearest_37 : decode cX0_isAheadByNearest 37 = .ok (.iconst (-1), 1) := by decide +kernel
theorem dX0_isAheadByNearest_38 : decode cX0_isAheadByNearest 38 = .ok (.ixor, 1) := by decide +kernel
theorem dX0_isAheadByNearest_39 : decode cX0_isAheadByNearest 39 = .ok (.iand, 1) := by decide +kernel
theorem dX0_isAheadByNearest_40 : decode cX0_isAheadByNearest 40 = .ok (.ifCond .ne 81, 3) := by decide +kernel
theorem dX0_isAheadByNearest_43 : decode cX0_isAheadByNearest 43 = .ok (.aload_n 0, 1) := by decide +kernel
theorem dX0_isAheadByNearest_44 : decode cX0_isAheadByNearest 44 = .ok (.getfield 31, 3) := by decide +kernel
theorem dX0_isAheadByNearest_47 : decode cX0_isAheadByNearest 47 = .ok (.iload 6, 2) := by decide +kernel
theorem dX0_isAheadByNearest_49 : decode cX0_isAheadByNearest 49 = .ok (.aload_n 0, 1) := by decide +kernel
theorem dX0_isAheadByNearest_50 : decode cX0_isAheadByNearest 50 = .ok (.iload 6, 2) := by decide +kernel
theorem dX0_isAheadByNearest_52 : decode cX0_isAheadByNearest 52 = .ok (.iload_n 2, 1) := by decide +kernel
theorem dX0_isAheadByNearest_53 : decode cX0_isAheadByNearest 53 = .ok (.invokevirtual 146, 3) := by decide +kernel
theorem dX0_isAheadByNearest_56 : decode cX0_isAheadByNearest 56 = .ok (.iastore, 1) := by decide +kernel
theorem dX0_isAheadByNearest_57 : decode cX0_isAheadByNearest 57 = .ok (.aload_n 0, 1) := by decide +kernel
theorem dX0_isAheadByNearest_58 : decode cX0_isAheadByNearest 58 = .ok (.getfield 25, 3) := by decide +kernel
theorem dX0_isAheadByNearest_61 : decode cX0_isAheadByNearest 61 = .ok (.iload 6, 2) := by decide +kernel
theorem dX0_isAheadByNearest_63 : decode cX0_isAheadByNearest 63 = .ok (.iaload, 1) := by decide +kernel
theorem dX0_isAheadByNearest_64 : decode cX0_isAheadByNearest 64 = .ok (.aload_n 0, 1) := by decide +kernel
theorem dX0_isAheadByNearest_65 : decode cX0_isAheadByNearest 65 = .ok (.getfield 31, 3) := by decide +kernel
theorem dX0_isAheadByNearest_68 : decode cX0_isAheadByNearest 68 = .ok (.iload 6, 2) := by decide +kernel
theorem dX0_isAheadByNearest_70 : decode cX0_isAheadByNearest 70 = .ok (.iaload, 1) := by decide +kernel
theorem dX0_isAheadByNearest_71 : decode cX0_isAheadByNearest 71 = .ok (.iadd, 1) := by decide +kernel
theorem dX0_isAheadByNearest_72 : decode cX0_isAheadByNearest 72 = .ok (.aload_n 0, 1) := by decide +kernel
theorem dX0_isAheadByNearest_73 : decode cX0_isAheadByNearest 73 = .ok (.getfield 25, 3) := by decide +kernel
theorem dX0_isAheadByNearest_76 : decode cX0_isAheadByNearest 76 = .ok (.iload 5, 2) := by decide +kernel
theorem dX0_isAheadByNearest_78 : decode cX0_isAheadByNearest 78 = .ok (.iaload, 1) := by decide +kernel
theorem dX0_isAheadByNearest_79 : decode cX0_isAheadByNearest 79 = .ok (.isub, 1) := by decide +kernel
theorem dX0_isAheadByNearest_80 : decode cX0_isAheadByNearest 80 = .ok (.aload_n 0, 1) := by decide +kernel
theorem dX0_isAheadByNearest_81 : decode cX0_isAheadByNearest 81 = .ok (.getfield 31, 3) := by decide +kernel
theorem dX0_isAheadByNearest_84 : decode cX0_isAheadByNearest 84 = .ok (.iload 5, 2) := by decide +kernel
theorem dX0_isAheadByNearest_86 : decode cX0_isAheadByNearest 86 = .ok (.iaload, 1) := by decide +kernel
theorem dX0_isAheadByNearest_87 : decode cX0_isAheadByNearest 87 = .ok (.isub, 1) := by decide +kernel
theorem dX0_isAheadByNearest_88 : decode cX0_isAheadByNearest 88 = .ok (.istore 7, 2) := by decide +kernel
theorem dX0_isAheadByNearest_90 : decode cX0_isAheadByNearest 90 = .ok (.iload 7, 2) := by decide +kernel
theorem dX0_isAheadByNearest_92 : decode cX0_isAheadByNearest 92 = .ok (.ifCond .gt 25, 3) := by decide +kernel
theorem dX0_isAheadByNearest_95 : decode cX0_isAheadByNearest 95 = .ok (.iload 7, 2) := by decide +kernel
theorem dX0_isAheadByNearest_97 : decode cX0_isAheadByNearest 97 = .ok (.ifCond .ne 24, 3) := by decide +kernel
theorem dX0_isAheadByNearest_100 : decode cX0_isAheadByNearest 100 = .ok (.aload_n 0, 1) := by decide +kernel
theorem dX0_isAheadByNearest_101 : decode cX0_isAheadByNearest 101 = .ok (.getfield 28, 3) := by decide +kernel
theorem dX0_isAheadByNearest_104 : decode cX0_isAheadByNearest 104 = .ok (.iload 6, 2) := by decide +kernel
theorem dX0_isAheadByNearest_106 : decode cX0_isAheadByNearest 106 = .ok (.iaload, 1) := by decide +kernel
theorem dX0_isAheadByNearest_107 : decode cX0_isAheadByNearest 107 = .ok (.aload_n 0, 1) := by decide +kernel
theorem dX0_isAheadByNearest_108 : decode cX0_isAheadByNearest 108 = .ok (.getfield 28, 3) := by decide +kernel
theorem dX0_isAheadByNearest_111 : decode cX0_isAheadByNearest 111 = .ok (.iload 5, 2) := by decide +kernel
theorem dX0_isAheadByNearest_113 : decode cX0_isAheadByNearest 113 = .ok (.iaload, 1) := by decide +kernel
theorem dX0_isAheadByNearest_114 : decode cX0_isAheadByNearest 114 = .ok (.if_icmp .ge 7, 3) := by decide +kernel
theorem dX0_isAheadByNearest_117 : decode cX0_isAheadByNearest 117 = .ok (.iload 6, 2) := by decide +kernel
theorem dX0_isAheadByNearest_119 : decode cX0_isAheadByNearest 119 = .ok (.istore 5, 2) := by decide +kernel
theorem dX0_isAheadByNearest_121 : decode cX0_isAheadByNearest 121 = .ok (.iinc 6 1, 3) := by decide +kernel
theorem dX0_isAheadByNearest_124 : decode cX0_isAheadByNearest 124 = .ok (.goto (-98), 3) := by decide +kernel
theorem dX0_isAheadByNearest_127 : decode cX0_isAheadByNearest 127 = .ok (.iload 5, 2) := by decide +kernel
theorem dX0_isAheadByNearest_129 : decode cX0_isAheadByNearest 129 = .ok (.iload_n 3, 1) := by decide +kernel
theorem dX0_isAheadByNearest_130 : decode cX0_isAheadByNearest 130 = .ok (.ishr, 1) := by decide +kernel
theorem dX0_isAheadByNearest_131 : decode cX0_isAheadByNearest 131 = .ok (.iconst 1, 1) := by decide +kernel
theorem dX0_isAheadByNearest_132 : decode cX0_isAheadByNearest 132 = .ok (.iand, 1) := by decide +kernel
theorem dX0_isAheadByNearest_133 : decode cX0_isAheadByNearest 133 = .ok (.ifCond .ne 7, 3) := by decide +kernel
theorem dX0_isAheadByNearest_136 : decode cX0_isAheadByNearest 136 = .ok (.iconst 1, 1) := by decide +kernel
theorem dX0_isAheadByNearest_137 : decode cX0_isAheadByNearest 137 = .ok (.goto 4, 3) := by decide +kernel
theorem dX0_isAheadByNearest_140 : decode cX0_isAheadByNearest 140 = .ok (.iconst 0, 1) := by decide +kernel
theorem dX0_isAheadByNearest_141 : decode cX0_isAheadByNearest 141 = .ok (.ireturn, 1) := by decide +kernel
theorem dX0_swayOf_0 : decode cX0_swayOf 0 = .ok (.iload_n 1, 1) := by decide +kernel
theorem dX0_swayOf_1 : decode cX0_swayOf 1 = .ok (.iload_n 1, 1) := by decide +kernel
theorem dX0_swayOf_2 : decode cX0_swayOf 2 = .ok (.iconst 1, 1) := by decide +kernel
theorem dX0_swayOf_3 : decode cX0_swayOf 3 = .ok (.isub, 1) := by decide +kernel
theorem dX0_swayOf_4 : decode cX0_swayOf 4 = .ok (.iand, 1) := by decide +kernel
theorem dX0_swayOf_5 : decode cX0_swayOf 5 = .ok (.istore_n 3, 1) := by decide +kernel
theorem dX0_swayOf_6 : decode cX0_swayOf 6 = .ok (.iload_n 1, 1) := by decide +kernel
theorem dX0_swayOf_7 : decode cX0_swayOf 7 = .ok (.iload_n 3, 1) := by decide +kernel
theorem dX0_swayOf_8 : decode cX0_swayOf 8 = .ok (.ixor, 1) := by decide +kernel
theorem dX0_swayOf_9 : decode cX0_swayOf 9 = .ok (.iconst 1, 1) := by decide +kernel
theorem dX0_swayOf_10 : decode cX0_swayOf 10 = .ok (.isub, 1) := by decide +kernel
theorem dX0_swayOf_11 : decode cX0_swayOf 11 = .ok (.invokestatic 96, 3) := by decide +kernel
theorem dX0_swayOf_14 : decode cX0_swayOf 14 = .ok (.istore 4, 2) := by decide +kernel
theorem dX0_swayOf_16 : decode cX0_swayOf 16 = .ok (.aload_n 0, 1) := by decide +kernel
theorem dX0_swayOf_17 : decode cX0_swayOf 17 = .ok (.getfield 31, 3) := by decide +kernel
theorem dX0_swayOf_20 : decode cX0_swayOf 20 = .ok (.iload_n 3, 1) := by decide +kernel
theorem dX0_swayOf_21 : decode cX0_swayOf 21 = .ok (.iaload, 1) := by decide +kernel
theorem dX0_swayOf_22 : decode cX0_swayOf 22 = .ok (.aload_n 0, 1) := by decide +kernel
theorem dX0_swayOf_23 : decode cX0_swayOf 23 = .ok (.iload 4, 2) := by decide +kernel
theorem dX0_swayOf_25 : decode cX0_swayOf 25 = .ok (.iload_n 2, 1) := by decide +kernel
theorem dX0_swayOf_26 : decode cX0_swayOf 26 = .ok (.invokevirtual 47, 3) := by decide +kernel
theorem dX0_swayOf_29 : decode cX0_swayOf 29 = .ok (.iadd, 1) := by decide +kernel
theorem dX0_swayOf_30 : decode cX0_swayOf 30 = .ok (.aload_n 0, 1) := by decide +kernel
theorem dX0_swayOf_31 : decode cX0_swayOf 31 = .ok (.iload_n 2, 1) := by decide +kernel
theorem dX0_swayOf_32 : decode cX0_swayOf 32 = .ok (.iload 4, 2) := by decide +kernel
theorem dX0_swayOf_34 : decode cX0_swayOf 34 = .ok (.invokevirtual 47, 3) := by decide +kernel
theorem dX0_swayOf_37 : decode cX0_swayOf 37 = .ok (.isub, 1) := by decide +kernel
theorem dX0_swayOf_38 : decode cX0_swayOf 38 = .ok (.ireturn, 1) := by decide +kernel
theorem dX1_init_0 : decode cX1_init 0 = .ok (.aload_n 0, 1) := by decide +kernel
theorem dX1_init_1 : decode cX1_init 1 = .ok (.invokespecial 3, 3) := by decide +kernel
theorem dX1_init_4 : decode cX1_init 4 = .ok (.aload_n 0, 1) := by decide +kernel
theorem dX1_init_5 : decode cX1_init 5 = .ok (.bipush 10, 2) := by decide +kernel
theorem dX1_init_7 : decode cX1_init 7 = .ok (.newarray .int, 2) := by decide +kernel
theorem dX1_init_9 : decode cX1_init 9 = .ok (.putfield 9, 3) := by decide +kernel
theorem dX1_init_12 : decode cX1_init 12 = .ok (.aload_n 0, 1) := by decide +kernel
theorem dX1_init_13 : decode cX1_init 13 = .ok (.bipush 32, 2) := by decide +kernel
theorem dX1_init_15 : decode cX1_init 15 = .ok (.newarray .int, 2) := by decide +kernel
theorem dX1_init_17 : decode cX1_init 17 = .ok (.putfield 15, 3) := by decide +kernel
theorem dX1_init_20 : decode cX1_init 20 = .ok (.aload_n 0, 1) := by decide +kernel
theorem dX1_init_21 : decode cX1_init 21 = .ok (.bipush 7, 2) := by decide +kernel
theorem dX1_init_23 : decode cX1_init 23 = .ok (.newarray .int, 2) := by decide +kernel
theorem dX1_init_25 : decode cX1_init 25 = .ok (.putfield 18, 3) := by decide +kernel
theorem dX1_init_28 : decode cX1_init 28 = .ok (.return_, 1) := by decide +kernel
theorem dX1_feeOf_0 : decode cX1_feeOf 0 = .ok (.iload_n 3, 1) := by decide +kernel
theorem dX1_feeOf_1 : decode cX1_feeOf 1 = .ok (.invokestatic 21, 3) := by decide +kernel
theorem dX1_feeOf_4 : decode cX1_feeOf 4 = .ok (.istore 4, 2) := by decide +kernel
theorem dX1_feeOf_6 : decode cX1_feeOf 6 = .ok (.iconst 0, 1) := by decide +kernel
theorem dX1_feeOf_7 : decode cX1_feeOf 7 = .ok (.istore 5, 2) := by decide +kernel
theorem dX1_feeOf_9 : decode cX1_feeOf 9 = .ok (.iload 5, 2) := by decide +kernel
theorem dX1_feeOf_11 : decode cX1_feeOf 11 = .ok (.iload 4, 2) := by decide +kernel
theorem dX1_feeOf_13 : decode cX1_feeOf 13 = .ok (.if_icmp .gt 22, 3) := by decide +kernel
theorem dX1_feeOf_16 : decode cX1_feeOf 16 = .ok (.aload_n 0, 1) := by decide +kernel
theorem dX1_feeOf_17 : decode cX1_feeOf 17 = .ok (.getfield 18, 3) := by decide +kernel
theorem dX1_feeOf_20 : decode cX1_feeOf 20 = .ok (.iload 5, 2) := by decide +kernel
theorem dX1_feeOf_22 : decode cX1_feeOf 22 = .ok (.iload 5, 2) := by decide +kernel
theorem dX1_feeOf_24 : decode cX1_feeOf 24 = .ok (.aload_n 1, 1) := by decide +kernel
theorem dX1_feeOf_25 : decode cX1_feeOf 25 = .ok (.iconst 3, 1) := by decide +kernel
theorem dX1_feeOf_26 : decode cX1_feeOf 26 = .ok (.iaload, 1) := by decide +kernel
theorem dX1_feeOf_27 : decode cX1_feeOf 27 = .ok (.imul, 1) := by decide +kernel
theorem dX1_feeOf_28 : decode cX1_feeOf 28 = .ok (.iastore, 1) := by decide +kernel
theorem dX1_feeOf_29 : decode cX1_feeOf 29 = .ok (.iinc 5 1, 3) := by decide +kernel
theorem dX1_feeOf_32 : decode cX1_feeOf 32 = .ok (.goto (-23), 3) := by decide +kernel
theorem dX1_feeOf_35 : decode cX1_feeOf 35 = .ok (.iconst 0, 1) := by decide +kernel
theorem dX1_feeOf_36 : decode cX1_feeOf 36 = .ok (.istore 5, 2) := by decide +kernel
theorem dX1_feeOf_38 : decode cX1_feeOf 38 = .ok (.iload 5, 2) := by decide +kernel
theorem dX1_feeOf_40 : decode cX1_feeOf 40 = .ok (.iload_n 2, 1) := by decide +kernel
theorem dX1_feeOf_41 : decode cX1_feeOf 41 = .ok (.invokestatic 21, 3) := by decide +kernel
theorem dX1_feeOf_44 : decode cX1_feeOf 44 = .ok (.if_icmp .ge 138, 3) := by decide +kernel
theorem dX1_feeOf_47 : decode cX1_feeOf 47 = .ok (.aload_n 0, 1) := by decide +kernel
theorem dX1_feeOf_48 : decode cX1_feeOf 48 = .ok (.getfield 18, 3) := by decide +kernel
theorem dX1_feeOf_51 : decode cX1_feeOf 51 = .ok (.iconst 0, 1) := by decide +kernel
theorem dX1_feeOf_52 : decode cX1_feeOf 52 = .ok (.iaload, 1) := by decide +kernel
theorem dX1_feeOf_53 : decode cX1_feeOf 53 = .ok (.istore 6, 2) := by decide +kernel
theorem dX1_feeOf_55 : decode cX1_feeOf 55 = .ok (.aload_n 0, 1) := by decide +kernel
theorem dX1_feeOf_56 : decode cX1_feeOf 56 = .ok (.getfield 18, 3) := by decide +kernel
theorem dX1_feeOf_59 : decode cX1_feeOf 59 = .ok (.iconst 0, 1) := by decide +kernel
theorem dX1_feeOf_60 : decode cX1_feeOf 60 = .ok (.dup2, 1) := by decide +kernel
theorem dX1_feeOf_61 : decode cX1_feeOf 61 = .ok (.iaload, 1) := by decide +kernel
theorem dX1_feeOf_62 : decode cX1_feeOf 62 = .ok (.aload_n 1, 1) := by decide +kernel
theorem dX1_feeOf_63 : decode cX1_feeOf 63 = .ok (.iconst 4, 1) := by decide +kernel
theorem dX1_feeOf_64 : decode cX1_feeOf 64 = .ok (.iaload, 1) := by decide +kernel
theorem dX1_feeOf_65 : decode cX1_feeOf 65 = .ok (.iadd, 1) := by decide +kernel
theorem dX1_feeOf_66 : decode cX1_feeOf 66 = .ok (.iastore, 1) := by decide +kernel
theorem dX1_feeOf_67 : decode cX1_feeOf 67 = .ok (.iconst 1, 1) := by decide +kernel
theorem dX1_feeOf_68 : decode cX1_feeOf 68 = .ok (.istore 7, 2) := by decide +kernel
theorem dX1_feeOf_70 : decode cX1_feeOf 70 = .ok (.iload 7, 2) := by decide +kernel
theorem dX1_feeOf_72 : decode cX1_feeOf 72 = .ok (.iload 4, 2) := by decide +kernel
theorem dX1_feeOf_74 : decode cX1_feeOf 74 = .ok (.if_icmp .gt 102, 3) := by decide +kernel
theorem dX1_feeOf_77 : decode cX1_feeOf 77 = .ok (.iload_n 2, 1) := by decide +kernel
theorem dX1_feeOf_78 : decode cX1_feeOf 78 = .ok (.iload 5, 2) := by decide +kernel
theorem dX1_feeOf_80 : decode cX1_feeOf 80 = .ok (.invokestatic 27, 3) := by decide +kernel
theorem dX1_feeOf_83 : decode cX1_feeOf 83 = .ok (.iload_n 3, 1) := by decide +kernel
theorem dX1_feeOf_84 : decode cX1_feeOf 84 = .ok (.iload 7, 2) := by decide +kernel
theorem dX1_feeOf_86 : decode cX1_feeOf 86 = .ok (.iconst 1, 1) := by decide +kernel
theorem dX1_feeOf_87 : decode cX1_feeOf 87 = .ok (.isub, 1) := by decide +kernel
theorem dX1_feeOf_88 : decode cX1_feeOf 88 = .ok (.invokestatic 27, 3) := by decide +kernel
theorem dX1_feeOf_91 : decode cX1_feeOf 91 = .ok (.if_icmp .ne 7, 3) := by decide +kernel
theorem dX1_feeOf_94 : decode cX1_feeOf 94 = .ok (.iconst 1, 1) := by decide +kernel
theorem dX1_feeOf_95 : decode cX1_feeOf 95 = .ok (.goto 4, 3) := by decide +kernel
theorem dX1_feeOf_98 : decode cX1_feeOf 98 = .ok (.iconst 0, 1) := by decide +kernel
theorem dX1_feeOf_99 : decode cX1_feeOf 99 = .ok (.istore 8, 2) := by decide +kernel
theorem dX1_feeOf_101 : decode cX1_feeOf 101 = .ok (.iload 6, 2) := by decide +kernel
theorem dX1_feeOf_103 : decode cX1_feeOf 103 = .ok (.iload 8, 2) := by decide +kernel
theorem dX1_feeOf_105 : decode cX1_feeOf 105 = .ok (.ifCond .eq 7, 3) := by decide +kernel
theorem dX1_feeOf_108 : decode cX1_feeOf 108 = .ok (.iconst 0, 1) := by decide +kernel
theorem dX1_feeOf_109 : decode cX1_feeOf 109 = .ok (.goto 6, 3) := by decide +kernel
theorem dX1_feeOf_112 : decode cX1_feeOf 112 = .ok (.aload_n 1, 1) := by decide +kernel
theorem dX1_feeOf_113 : decode cX1_feeOf 113 = .ok (.iconst 2, 1) := by decide +kernel
theorem dX1_feeOf_114 : decode cX1_feeOf 114 = .ok (.iaload, 1) := by decide +kernel
theorem dX1_feeOf_115 : decode cX1_feeOf 115 = .ok (.iadd, 1) := by decide +kernel
theorem dX1_feeOf_116 : decode cX1_feeOf 116 = .ok (.istore 9, 2) := by decide +kernel
theorem dX1_feeOf_118 : decode cX1_feeOf 118 = .ok (.aload_n 0, 1) := by decide +kernel
theorem dX1_feeOf_119 : decode cX1_feeOf 119 = .ok (.getfield 18, 3) := by decide +kernel
theorem dX1_feeOf_122 : decode cX1_feeOf 122 = .ok (.iload 7, 2) := by decide +kernel
theorem dX1_feeOf_124 : decode cX1_feeOf 124 = .ok (.iaload, 1) := by decide +kernel
theorem dX1_feeOf_125 : decode cX1_feeOf 125 = .ok (.istore 6, 2) := by decide +kernel
theorem dX1_feeOf_127 : decode cX1_feeOf 127 = .ok (.aload_n 0, 1) := by decide +kernel
theorem dX1_feeOf_128 : decode cX1_feeOf 128 = .ok (.getfield 18, 3) := by decide +kernel
theorem dX1_feeOf_131 : decode cX1_feeOf 131 = .ok (.iload 7, 2) := by decide +kernel
theorem dX1_feeOf_133 : decode cX1_feeOf 133 = .ok (.iaload, 1) := by decide +kernel
theorem dX1_feeOf_134 : decode cX1_feeOf 134 = .ok (.aload_n 1, 1) := by decide +kernel
theorem dX1_feeOf_135 : decode cX1_feeOf 135 = .ok (.iconst 4, 1) := by decide +kernel
theorem dX1_feeOf_136 : decode cX1_feeOf 136 = .ok (.iaload, 1) := by decide +kernel
theorem dX1_feeOf_137 : decode cX1_feeOf 137 = .ok (.iadd, 1) := by decide +kernel
theorem dX1_feeOf_138 : decode cX1_feeOf 138 = .ok (.aload_n 0, 1) := by decide +kernel
theorem dX1_feeOf_139 : decode cX1_feeOf 139 = .ok (.getfield 18, 3) := by decide +kernel
theorem dX1_feeOf_142 : decode cX1_feeOf 142 = .ok (.iload 7, 2) := by decide +kernel
theorem dX1_feeOf_144 : decode cX1_feeOf 144 = .ok (.iconst 1, 1) := by decide +kernel
theorem dX1_feeOf_145 : decode cX1_feeOf 145 = .ok (.isub, 1) := by decide +kernel
theorem dX1_feeOf_146 : decode cX1_feeOf 146 = .ok (.iaload, 1) := by decide +kernel
theorem dX1_feeOf_147 : decode cX1_feeOf 147 = .ok (.aload_n 1, 1) := by decide +kernel
theorem dX1_feeOf_148 : decode cX1_feeOf 148 = .ok (.iconst 3, 1) := by decide +kernel
theorem dX1_feeOf_149 : decode cX1_feeOf 149 = .ok (.iaload, 1) := by decide +kernel
theorem dX1_feeOf_150 : decode cX1_feeOf 150 = .ok (.iadd, 1) := by decide +kernel
theorem dX1_feeOf_151 : decode cX1_feeOf 151 = .ok (.invokestatic 31, 3) := by decide +kernel
theorem dX1_feeOf_154 : decode cX1_feeOf 154 = .ok (.istore 10, 2) := by decide +kernel
theorem dX1_feeOf_156 : decode cX1_feeOf 156 = .ok (.aload_n 0, 1) := by decide +kernel
theorem dX1_feeOf_157 : decode cX1_feeOf 157 = .ok (.getfield 18, 3) := by decide +kernel
theorem dX1_feeOf_160 : decode cX1_feeOf 160 = .ok (.iload 7, 2) := by decide +kernel
theorem dX1_feeOf_162 : decode cX1_feeOf 162 = .ok (.iload 9, 2) := by decide +kernel
theorem dX1_feeOf_164 : decode cX1_feeOf 164 = .ok (.iload 10, 2) := by decide +kernel
theorem dX1_feeOf_166 : decode cX1_feeOf 166 = .ok (.invokestatic 31, 3) := by decide +kernel
theorem dX1_feeOf_169 : decode cX1_feeOf 169 = .ok (.iastore, 1) := by decide +kernel
theorem dX1_feeOf_170 : decode cX1_feeOf 170 = .ok (.iinc 7 1, 3) := by decide +kernel
theorem dX1_feeOf_173 : decode cX1_feeOf 173 = .ok (.goto (-103), 3) := by decide +kernel
theorem dX1_feeOf_176 : decode cX1_feeOf 176 = .ok (.iinc 5 1, 3) := by decide +kernel
theorem dX1_feeOf_179 : decode cX1_feeOf 179 = .ok (.goto (-141), 3) := by decide +kernel
theorem dX1_feeOf_182 : decode cX1_feeOf 182 = .ok (.aload_n 0, 1) := by decide +kernel
theorem dX1_feeOf_183 : decode cX1_feeOf 183 = .ok (.getfield 18, 3) := by decide +kernel
theorem dX1_feeOf_186 : decode cX1_feeOf 186 = .ok (.iload 4, 2) := by decide +kernel
theorem dX1_feeOf_188 : decode cX1_feeOf 188 = .ok (.iaload, 1) := by decide +kernel
theorem dX1_feeOf_189 : decode cX1_feeOf 189 = .ok (.ireturn, 1) := by decide +kernel
theorem dX1_allows_0 : decode cX1_allows 0 = .ok (.aload_n 0, 1) := by decide +kernel
theorem dX1_allows_1 : decode cX1_allows 1 = .ok (.aload_n 1, 1) := by decide +kernel
theorem dX1_allows_2 : decode cX1_allows 2 = .ok (.iload 4, 2) := by decide +kernel
theorem dX1_allows_4 : decode cX1_allows 4 = .ok (.invokevirtual 36, 3) := by decide +kernel
theorem dX1_allows_7 : decode cX1_allows 7 = .ok (.aload_n 0, 1) := by decide +kernel
theorem dX1_allows_8 : decode cX1_allows 8 = .ok (.getfield 9, 3) := by decide +kernel
theorem dX1_allows_11 : decode cX1_allows 11 = .ok (.iconst 3, 1) := by decide +kernel
theorem dX1_allows_12 : decode cX1_allows 12 = .ok (.iload_n 3, 1) := by decide +kernel
theorem dX1_allows_13 : decode cX1_allows 13 = .ok (.iload 4, 2) := by decide +kernel
theorem dX1_allows_15 : decode cX1_allows 15 = .ok (.invokestatic 40, 3) := by decide +kernel
theorem dX1_allows_18 : decode cX1_allows 18 = .ok (.iastore, 1) := by decide +kernel
theorem dX1_allows_19 : decode cX1_allows 19 = .ok (.aload_n 0, 1) := by decide +kernel
theorem dX1_allows_20 : decode cX1_allows 20 = .ok (.getfield 9, 3) := by decide +kernel
theorem dX1_allows_23 : decode cX1_allows 23 = .ok (.bipush 6, 2) := by decide +kernel
theorem dX1_allows_25 : decode cX1_allows 25 = .ok (.aload_n 1, 1) := by decide +kernel
theorem dX1_allows_26 : decode cX1_allows 26 = .ok (.getfield 43, 3) := by decide +kernel
theorem dX1_allows_29 : decode cX1_allows 29 = .ok (.getfield 49, 3) := by decide +kernel
theorem dX1_allows_32 : decode cX1_allows 32 = .ok (.iload_n 2, 1) := by decide +kernel
theorem dX1_allows_33 : decode cX1_allows 33 = .ok (.iaload, 1) := by decide +kernel
theorem dX1_allows_34 : decode cX1_allows 34 = .ok (.iastore, 1) := by decide +kernel
theorem dX1_allows_35 : decode cX1_allows 35 = .ok (.aload_n 0, 1) := by decide +kernel
theorem dX1_allows_36 : decode cX1_allows 36 = .ok (.getfield 9, 3) := by decide +kernel
theorem dX1_allows_39 : decode cX1_allows 39 = .ok (.bipush 7, 2) := by decide +kernel
theorem dX1_allows_41 : decode cX1_allows 41 = .ok (.aload_n 1, 1) := by decide +kernel
theorem dX1_allows_42 : decode cX1_allows 42 = .ok (.getfield 43, 3) := by decide +kernel
theorem dX1_allows_45 : decode cX1_allows 45 = .ok (.getfield 54, 3) := by decide +kernel
theorem dX1_allows_48 : decode cX1_allows 48 = .ok (.iload_n 2, 1) := by decide +kernel
theorem dX1_allows_49 : decode cX1_allows 49 = .ok (.iaload, 1) := by decide +kernel
theorem dX1_allows_50 : decode cX1_allows 50 = .ok (.iastore, 1) := by decide +kernel
theorem dX1_allows_51 : decode cX1_allows 51 = .ok (.aload_n 0, 1) := by decide +kernel
theorem dX1_allows_52 : decode cX1_allows 52 = .ok (.getfield 9, 3) := by decide +kernel
theorem dX1_allows_55 : decode cX1_allows 55 = .ok (.bipush 8, 2) := by decide +kernel
theorem dX1_allows_57 : decode cX1_allows 57 = .ok (.aload_n 1, 1) := by decide +kernel
theorem dX1_allows_58 : decode cX1_allows 58 = .ok (.getfield 43, 3) := by decide +kernel
theorem dX1_allows_61 : decode cX1_allows 61 = .ok (.getfield 57, 3) := by decide +kernel
theorem dX1_allows_64 : decode cX1_allows 64 = .ok (.iload_n 2, 1) := by decide +kernel
theorem dX1_allows_65 : decode cX1_allows 65 = .ok (.iaload, 1) := by decide +kernel
theorem dX1_allows_66 : decode cX1_allows 66 = .ok (.iastore, 1) := by decide +kernel
theorem dX1_allows_67 : decode cX1_allows 67 = .ok (.aload_n 0, 1) := by decide +kernel
theorem dX1_allows_68 : decode cX1_allows 68 = .ok (.getfield 9, 3) := by decide +kernel
theorem dX1_allows_71 : decode cX1_allows 71 = .ok (.bipush 9, 2) := by decide +kernel
theorem dX1_allows_73 : decode cX1_allows 73 = .ok (.iload 5, 2) := by decide +kernel
theorem dX1_allows_75 : decode cX1_allows 75 = .ok (.iastore, 1) := by decide +kernel
theorem dX1_allows_76 : decode cX1_allows 76 = .ok (.iconst 0, 1) := by decide +kernel
theorem dX1_allows_77 : decode cX1_allows 77 = .ok (.istore 6, 2) := by decide +kernel
theorem dX1_allows_79 : decode cX1_allows 79 = .ok (.iconst 0, 1) := by decide +kernel
theorem dX1_allows_80 : decode cX1_allows 80 = .ok (.istore 7, 2) := by decide +kernel
theorem dX1_allows_82 : decode cX1_allows 82 = .ok (.iload 7, 2) := by decide +kernel
theorem dX1_allows_84 : decode cX1_allows 84 = .ok (.aload_n 1, 1) := by decide +kernel
theorem dX1_allows_85 : decode cX1_allows 85 = .ok (.getfield 60, 3) := by decide +kernel
theorem dX1_allows_88 : decode cX1_allows 88 = .ok (.getfield 64, 3) := by decide +kernel
theorem dX1_allows_91 : decode cX1_allows 91 = .ok (.if_icmp .ge 72, 3) := by decide +kernel
theorem dX1_allows_94 : decode cX1_allows 94 = .ok (.aload_n 1, 1) := by decide +kernel
theorem dX1_allows_95 : decode cX1_allows 95 = .ok (.getfield 60, 3) := by decide +kernel
theorem dX1_allows_98 : decode cX1_allows 98 = .ok (.getfield 70, 3) := by decide +kernel
theorem dX1_allows_101 : decode cX1_allows 101 = .ok (.iload 7, 2) := by decide +kernel
theorem dX1_allows_103 : decode cX1_allows 103 = .ok (.iaload, 1) := by decide +kernel
theorem dX1_allows_104 : decode cX1_allows 104 = .ok (.istore 8, 2) := by decide +kernel
theorem dX1_allows_106 : decode cX1_allows 106 = .ok (.iload 6, 2) := by decide +kernel
theorem dX1_allows_108 : decode cX1_allows 108 = .ok (.iload 8, 2) := by decide +kernel
theorem dX1_allows_110 : decode cX1_allows 110 = .ok (.if_icmp .eq 21, 3) := by decide +kernel
theorem dX1_allows_113 : decode cX1_allows 113 = .ok (.aload_n 0, 1) := by decide +kernel
theorem dX1_allows_114 : decode cX1_allows 114 = .ok (.aload_n 1, 1) := by decide +kernel
theorem dX1_allows_115 : decode cX1_allows 115 = .ok (.getfield 60, 3) := by decide +kernel
theorem dX1_allows_118 : decode cX1_allows 118 = .ok (.getfield 73, 3) := by decide +kernel
theorem dX1_allows_121 : decode cX1_allows 121 = .ok (.iload 6, 2) := by decide +kernel
theorem dX1_allows_123 : decode cX1_allows 123 = .ok (.iload 8, 2) := by decide +kernel
theorem dX1_allows_125 : decode cX1_allows 125 = .ok (.invokevirtual 76, 3) := by decide +kernel
theorem dX1_allows_128 : decode cX1_allows 128 = .ok (.ifCond .eq 25, 3) := by decide +kernel
theorem dX1_allows_131 : decode cX1_allows 131 = .ok (.aload_n 1, 1) := by decide +kernel
theorem dX1_allows_132 : decode cX1_allows 132 = .ok (.getfield 60, 3) := by decide +kernel
theorem dX1_allows_135 : decode cX1_allows 135 = .ok (.getfield 80, 3) := by decide +kernel
theorem dX1_allows_138 : decode cX1_allows 138 = .ok (.iload 7, 2) := by decide +kernel
theorem dX1_allows_140 : decode cX1_allows 140 = .ok (.iaload, 1) := by decide +kernel
theorem dX1_allows_141 : decode cX1_allows 141 = .ok (.sipush 10000, 3) := by decide +kernel
theorem dX1_allows_144 : decode cX1_allows 144 = .ok (.if_icmp .ne 7, 3) := by decide +kernel
theorem dX1_allows_147 : decode cX1_allows 147 = .ok (.iconst 1, 1) := by decide +kernel
theorem dX1_allows_148 : decode cX1_allows 148 = .ok (.goto 4, 3) := by decide +kernel
theorem dX1_allows_151 : decode cX1_allows 151 = .ok (.iconst 0, 1) := by decide +kernel
theorem dX1_allows_152 : decode cX1_allows 152 = .ok (.ireturn, 1) := by decide +kernel
theorem dX1_allows_153 : decode cX1_allows 153 = .ok (.iload 8, 2) := by decide +kernel
theorem dX1_allows_155 : decode cX1_allows 155 = .ok (.istore 6, 2) := by decide +kernel
theorem dX1_allows_157 : decode cX1_allows 157 = .ok (.iinc 7 1, 3) := by decide +kernel
theorem dX1_allows_160 : decode cX1_allows 160 = .ok (.goto (-78), 3) := by decide +kernel
theorem dX1_allows_163 : decode cX1_allows 163 = .ok (.iconst 1, 1) := by decide +kernel
theorem dX1_allows_164 : decode cX1_allows 164 = .ok (.ireturn, 1) := by decide +kernel
theorem dX1_gatherFacts_0 : decode cX1_gatherFacts 0 = .ok (.iload_n 2, 1) := by decide +kernel
theorem dX1_gatherFacts_1 : decode cX1_gatherFacts 1 = .ok (.invokestatic 21, 3) := by decide +kernel
theorem dX1_gatherFacts_4 : decode cX1_gatherFacts 4 = .ok (.istore_n 3, 1) := by decide +kernel
theorem dX1_gatherFacts_5 : decode cX1_gatherFacts 5 = .ok (.iconst 0, 1) := by decide +kernel
theorem dX1_gatherFacts_6 : decode cX1_gatherFacts 6 = .ok (.istore 4, 2) := by decide +kernel
theorem dX1_gatherFacts_8 : decode cX1_gatherFacts 8 = .ok (.iconst 0, 1) := by decide +kernel
theorem dX1_gatherFacts_9 : decode cX1_gatherFacts 9 = .ok (.istore 5, 2) := by decide +kernel
theorem dX1_gatherFacts_11 : decode cX1_gatherFacts 11 = .ok (.iconst 0, 1) := by decide +kernel
theorem dX1_gatherFacts_12 : decode cX1_gatherFacts 12 = .ok (.istore 6, 2) := by decide +kernel
theorem dX1_gatherFacts_14 : decode cX1_gatherFacts 14 = .ok (.aload_n 1, 1) := by decide +kernel
theorem dX1_gatherFacts_15 : decode cX1_gatherFacts 15 = .ok (.getfield 83, 3) := by decide +kernel
theorem dX1_gatherFacts_18 : decode cX1_gatherFacts 18 = .ok (.iconst 1, 1) := by decide +kernel
theorem dX1_gatherFacts_19 : decode cX1_gatherFacts 19 = .ok (.iadd, 1) := by decide +kernel
theorem dX1_gatherFacts_20 : decode cX1_gatherFacts 20 = .ok (.istore 7, 2) := by decide +kernel
theorem dX1_gatherFacts_22 : decode cX1_gatherFacts 22 = .ok (.aload_n 1, 1) := by decide +kernel
theorem dX1_gatherFacts_23 : decode cX1_gatherFacts 23 = .ok (.getfield 83, 3) := by decide +kernel
theorem dX1_gatherFacts_26 : decode cX1_gatherFacts 26 = .ok (.iconst 1, 1) := by decide +kernel
theorem dX1_gatherFacts_27 : decode cX1_gatherFacts 27 = .ok (.iadd, 1) := by decide +kernel
theorem dX1_gatherFacts_28 : decode cX1_gatherFacts 28 = .ok (.istore 8, 2) := by decide +kernel
theorem dX1_gatherFacts_30 : decode cX1_gatherFacts 30 = .ok (.iconst 0, 1) := by decide +kernel
theorem dX1_gatherFacts_31 : decode cX1_gatherFacts 31 = .ok (.istore 9, 2) := by decide +kernel
theorem dX1_gatherFacts_33 : decode cX1_gatherFacts 33 = .ok (.iload 9, 2) := by decide +kernel
theorem dX1_gatherFacts_35 : decode cX1_gatherFacts 35 = .ok (.iload_n 3, 1) := by decide +kernel
theorem dX1_gatherFacts_36 : decode cX1_gatherFacts 36 = .ok (.if_icmp .ge 86, 3) := by decide +kernel
theorem dX1_gatherFacts_39 : decode cX1_gatherFacts 39 = .ok (.iload_n 2, 1) := by decide +kernel
theorem dX1_gatherFacts_40 : decode cX1_gatherFacts 40 = .ok (.iload 9, 2) := by decide +kernel
theorem dX1_gatherFacts_42 : decode cX1_gatherFacts 42 = .ok (.invokestatic 27, 3) := by decide +kernel
theorem dX1_gatherFacts_45 : decode cX1_gatherFacts 45 = .ok (.istore 10, 2) := by decide +kernel
theorem dX1_gatherFacts_47 : decode cX1_gatherFacts 47 = .ok (.iload 4, 2) := by decide +kernel
theorem dX1_gatherFacts_49 : decode cX1_gatherFacts 49 = .ok (.iload 10, 2) := by decide +kernel
theorem dX1_gatherFacts_51 : decode cX1_gatherFacts 51 = .ok (.aload_n 1, 1) := by decide +kernel
theorem dX1_gatherFacts_52 : decode cX1_gatherFacts 52 = .ok (.getfield 83, 3) := by decide +kernel
theorem dX1_gatherFacts_55 : decode cX1_gatherFacts 55 = .ok (.if_icmp .lt 7, 3) := by decide +kernel
theorem dX1_gatherFacts_58 : decode cX1_gatherFacts 58 = .ok (.iconst 1, 1) := by decide +kernel
theorem dX1_gatherFacts_59 : decode cX1_gatherFacts 59 = .ok (.goto 4, 3) := by decide +kernel
theorem dX1_gatherFacts_62 : decode cX1_gatherFacts 62 = .ok (.iconst 0, 1) := by decide +kernel
theorem dX1_gatherFacts_63 : decode cX1_gatherFacts 63 = .ok (.iadd, 1) := by decide +kernel
theorem dX1_gatherFacts_64 : decode cX1_gatherFacts 64 = .ok (.istore 4, 2) := by decide +kernel
theorem dX1_gatherFacts_66 : decode cX1_gatherFacts 66 = .ok (.iload 5, 2) := by decide +kernel
theorem dX1_gatherFacts_68 : decode cX1_gatherFacts 68 = .ok (.iload 6, 2) := by decide +kernel
theorem dX1_gatherFacts_70 : decode cX1_gatherFacts 70 = .ok (.iload 10, 2) := by decide +kernel
theorem dX1_gatherFacts_72 : decode cX1_gatherFacts 72 = .ok (.ishr, 1) := by decide +kernel
theorem dX1_gatherFacts_73 : decode cX1_gatherFacts 73 = .ok (.iconst 1, 1) := by decide +kernel
theorem dX1_gatherFacts_74 : decode cX1_gatherFacts 74 = .ok (.iand, 1) := by decide +kernel
theorem dX1_gatherFacts_75 : decode cX1_gatherFacts 75 = .ok (.ior, 1) := by decide +kernel
theorem dX1_gatherFacts_76 : decode cX1_gatherFacts 76 = .ok (.istore 5, 2) := by decide +kernel
theorem dX1_gatherFacts_78 : decode cX1_gatherFacts 78 = .ok (.iload 6, 2) := by decide +kernel
theorem dX1_gatherFacts_80 : decode cX1_gatherFacts 80 = .ok (.iconst 1, 1) := by decide +kernel
theorem dX1_gatherFacts_81 : decode cX1_gatherFacts 81 = .ok (.iload 10, 2) := by decide +kernel
theorem dX1_gatherFacts_83 : decode cX1_gatherFacts 83 = .ok (.ishl, 1) := by decide +kernel
theorem dX1_gatherFacts_84 : decode cX1_gatherFacts 84 = .ok (.ior, 1) := by decide +kernel
theorem dX1_gatherFacts_85 : decode cX1_gatherFacts 85 = .ok (.istore 6, 2) := by decide +kernel
theorem dX1_gatherFacts_87 : decode cX1_gatherFacts 87 = .ok (.aload_n 1, 1) := by decide +kernel
theorem dX1_gatherFacts_88 : decode cX1_gatherFacts 88 = .ok (.getfield 86, 3) := by decide +kernel
theorem dX1_gatherFacts_91 : decode cX1_gatherFacts 91 = .ok (.aload_n 1, 1) := by decide +kernel
theorem dX1_gatherFacts_92 : decode cX1_gatherFacts 92 = .ok (.getfield 83, 3) := by decide +kernel
theorem dX1_gatherFacts_95 : decode cX1_gatherFacts 95 = .ok (.iload 10, 2) := by decide +kernel
theorem dX1_gatherFacts_97 : decode cX1_gatherFacts 97 = .ok (.invokestatic 89, 3) := by decide +kernel
theorem dX1_gatherFacts_100 : decode cX1_gatherFacts 100 = .ok (.istore 8, 2) := by decide +kernel
theorem dX1_gatherFacts_102 : decode cX1_gatherFacts 102 = .ok (.iload 9, 2) := by decide +kernel
theorem dX1_gatherFacts_104 : decode cX1_gatherFacts 104 = .ok (.ifCond .ne 8, 3) := by decide +kernel
theorem dX1_gatherFacts_107 : decode cX1_gatherFacts 107 = .ok (.iload 8, 2) := by decide +kernel
theorem dX1_gatherFacts_109 : decode cX1_gatherFacts 109 = .ok (.goto 5, 3) := by decide +kernel
theorem dX1_gatherFacts_112 : decode cX1_gatherFacts 112 = .ok (.iload 7, 2) := by decide +kernel
theorem dX1_gatherFacts_114 : decode cX1_gatherFacts 114 = .ok (.istore 7, 2) := by decide +kernel
theorem dX1_gatherFacts_116 : decode cX1_gatherFacts 116 = .ok (.iinc 9 1, 3) := by decide +kernel
theorem dX1_gatherFacts_119 : decode cX1_gatherFacts 119 = .ok (.goto (-86), 3) := by decide +kernel
theorem dX1_gatherFacts_122 : decode cX1_gatherFacts 122 = .ok (.aload_n 0, 1) := by decide +kernel
theorem dX1_gatherFacts_123 : decode cX1_gatherFacts 123 = .ok (.getfield 9, 3) := by decide +kernel
theorem dX1_gatherFacts_126 : decode cX1_gatherFacts 126 = .ok (.iconst 0, 1) := by decide +kernel
theorem dX1_gatherFacts_127 : decode cX1_gatherFacts 127 = .ok (.iload_n 3, 1) := by decide +kernel
theorem dX1_gatherFacts_128 : decode cX1_gatherFacts 128 = .ok (.iastore, 1) := by decide +kernel
theorem dX1_gatherFacts_129 : decode cX1_gatherFacts 129 = .ok (.aload_n 0, 1) := by decide +kernel
theorem dX1_gatherFacts_130 : decode cX1_gatherFacts 130 = .ok (.getfield 9, 3) := by decide +kernel
theorem dX1_gatherFacts_133 : decode cX1_gatherFacts 133 = .ok (.iconst 1, 1) := by decide +kernel
theorem dX1_gatherFacts_134 : decode cX1_gatherFacts 134 = .ok (.iload 7, 2) := by decide +kernel
theorem dX1_gatherFacts_136 : decode cX1_gatherFacts 136 = .ok (.iastore, 1) := by decide +kernel
theorem dX1_gatherFacts_137 : decode cX1_gatherFacts 137 = .ok (.aload_n 0, 1) := by decide +kernel
theorem dX1_gatherFacts_138 : decode cX1_gatherFacts 138 = .ok (.getfield 9, 3) := by decide +kernel
theorem dX1_gatherFacts_141 : decode cX1_gatherFacts 141 = .ok (.iconst 2, 1) := by decide +kernel
theorem dX1_gatherFacts_142 : decode cX1_gatherFacts 142 = .ok (.iload 8, 2) := by decide +kernel
theorem dX1_gatherFacts_144 : decode cX1_gatherFacts 144 = .ok (.iastore, 1) := by decide +kernel
theorem dX1_gatherFacts_145 : decode cX1_gatherFacts 145 = .ok (.aload_n 0, 1) := by decide +kernel
theorem dX1_gatherFacts_146 : decode cX1_gatherFacts 146 = .ok (.getfield 9, 3) := by decide +kernel
theorem dX1_gatherFacts_149 : decode cX1_gatherFacts 149 = .ok (.iconst 4, 1) := by decide +kernel
theorem dX1_gatherFacts_150 : decode cX1_gatherFacts 150 = .ok (.iload 4, 2) := by decide +kernel
theorem dX1_gatherFacts_152 : decode cX1_gatherFacts 152 = .ok (.iastore, 1) := by decide +kernel
theorem dX1_gatherFacts_153 : decode cX1_gatherFacts 153 = .ok (.aload_n 0, 1) := by decide +kernel
theorem dX1_gatherFacts_154 : decode cX1_gatherFacts 154 = .ok (.getfield 9, 3) := by decide +kernel
theorem dX1_gatherFacts_157 : decode cX1_gatherFacts 157 = .ok (.iconst 5, 1) := by decide +kernel
theorem dX1_gatherFacts_158 : decode cX1_gatherFacts 158 = .ok (.iload 5, 2) := by decide +kernel
theorem dX1_gatherFacts_160 : decode cX1_gatherFacts 160 = .ok (.iastore, 1) := by decide +kernel
theorem dX1_gatherFacts_161 : decode cX1_gatherFacts 161 = .ok (.return_, 1) := by decide +kernel
theorem dX1_lettersInCommon_0 : decode cX1_lettersInCommon 0 = .ok (.iload_n 0, 1) := by decide +kernel
theorem dX1_lettersInCommon_1 : decode cX1_lettersInCommon 1 = .ok (.invokestatic 21, 3) := by decide +kernel
theorem dX1_lettersInCommon_4 : decode cX1_lettersInCommon 4 = .ok (.iload_n 1, 1) := by decide +kernel
theorem dX1_lettersInCommon_5 : decode cX1_lettersInCommon 5 = .ok (.invokestatic 21, 3) := by decide +kernel
theorem dX1_lettersInCommon_8 : decode cX1_lettersInCommon 8 = .ok (.invokestatic 31, 3) := by decide +kernel
theorem dX1_lettersInCommon_11 : decode cX1_lettersInCommon 11 = .ok (.istore_n 2, 1) := by decide +kernel
theorem dX1_lettersInCommon_12 : decode cX1_lettersInCommon 12 = .ok (.iconst 0, 1) := by decide +kernel
theorem dX1_lettersInCommon_13 : decode cX1_lettersInCommon 13 = .ok (.istore_n 3, 1) := by decide +kernel
theorem dX1_lettersInCommon_14 : decode cX1_lettersInCommon 14 = .ok (.iload_n 3, 1) := by decide +kernel
theorem dX1_lettersInCommon_15 : decode cX1_lettersInCommon 15 = .ok (.iload_n 2, 1) := by decide +kernel
theorem dX1_lettersInCommon_16 : decode cX1_lettersInCommon 16 = .ok (.if_icmp .ge 22, 3) := by decide +kernel
theorem dX1_lettersInCommon_19 : decode cX1_lettersInCommon 19 = .ok (.iload_n 0, 1) := by decide +kernel
theorem dX1_lettersInCommon_20 : decode cX1_lettersInCommon 20 = .ok (.iload_n 3, 1) := by decide +kernel
theorem dX1_lettersInCommon_21 : decode cX1_lettersInCommon 21 = .ok (.invokestatic 27, 3) := by decide +kernel
theorem dX1_lettersInCommon_24 : decode cX1_lettersInCommon 24 = .ok (.iload_n 1, 1) := by decide +kernel
theorem dX1_lettersInCommon_25 : decode cX1_lettersInCommon 25 = .ok (.iload_n 3, 1) := by decide +kernel
theorem dX1_lettersInCommon_26 : decode cX1_lettersInCommon 26 = .ok (.invokestatic 27, 3) := by decide +kernel
theorem dX1_lettersInCommon_29 : decode cX1_lettersInCommon 29 = .ok (.if_icmp .ne 9, 3) := by decide +kernel
theorem dX1_lettersInCommon_32 : decode cX1_lettersInCommon 32 = .ok (.iinc 3 1, 3) := by decide +kernel
theorem dX1_lettersInCommon_35 : decode cX1_lettersInCommon 35 = .ok (.goto (-21), 3) := by decide +kernel
theorem dX1_lettersInCommon_38 : decode cX1_lettersInCommon 38 = .ok (.iload_n 3, 1) := by decide +kernel
theorem dX1_lettersInCommon_39 : decode cX1_lettersInCommon 39 = .ok (.ireturn, 1) := by decide +kernel
theorem dX1_holds_0 : decode cX1_holds 0 = .ok (.iconst 0, 1) := by decide +kernel
theorem dX1_holds_1 : decode cX1_holds 1 = .ok (.istore 4, 2) := by decide +kernel
theorem dX1_holds_3 : decode cX1_holds 3 = .ok (.iload_n 2, 1) := by decide +kernel
theorem dX1_holds_4 : decode cX1_holds 4 = .ok (.istore 5, 2) := by decide +kernel
theorem dX1_holds_6 : decode cX1_holds 6 = .ok (.iload 5, 2) := by decide +kernel
theorem dX1_holds_8 : decode cX1_holds 8 = .ok (.iload_n 3, 1) := by decide +kernel
theorem dX1_holds_9 : decode cX1_holds 9 = .ok (.if_icmp .ge 161, 3) := by decide +kernel
theorem dX1_holds_12 : decode cX1_holds 12 = .ok (.iload 4, 2) := by decide +kernel
theorem dX1_holds_14 : decode cX1_holds 14 = .ok (.bipush 32, 2) := by decide +kernel
theorem dX1_holds_16 : decode cX1_holds 16 = .ok (.if_icmp .ge 154, 3) := by decide +kernel
theorem dX1_holds_19 : decode cX1_holds 19 = .ok (.aload_n 1, 1) := by decide +kernel
theorem dX1_holds_20 : decode cX1_holds 20 = .ok (.iload 5, 2) := by decide +kernel
theorem dX1_holds_22 : decode cX1_holds 22 = .ok (.iaload, 1) := by decide +kernel
theorem dX1_holds_23 : decode cX1_holds 23 = .ok (.istore 6, 2) := by decide +kernel
theorem dX1_holds_25 : decode cX1_holds 25 = .ok (.iload 6, 2) := by decide +kernel
theorem dX1_holds_27 : decode cX1_holds 27 = .ok (.sipush 10000, 3) := by decide +kernel
theorem dX1_holds_30 : decode cX1_holds 30 = .ok (.if_icmp .ge 18, 3) := by decide +kernel
theorem dX1_holds_33 : decode cX1_holds 33 = .ok (.aload_n 0, 1) := by decide +kernel
theorem dX1_holds_34 : decode cX1_holds 34 = .ok (.getfield 15, 3) := by decide +kernel
theorem dX1_holds_37 : decode cX1_holds 37 = .ok (.iload 4, 2) := by decide +kernel
theorem dX1_holds_39 : decode cX1_holds 39 = .ok (.iload 6, 2) := by decide +kernel
theorem dX1_holds_41 : decode cX1_holds 41 = .ok (.iastore, 1) := by decide +kernel
theorem dX1_holds_42 : decode cX1_holds 42 = .ok (.iinc 4 1, 3) := by decide +kernel
theorem dX1_holds_45 : decode cX1_holds 45 = .ok (.goto 119, 3) := by decide +kernel
theorem dX1_holds_48 : decode cX1_holds 48 = .ok (.iload 6, 2) := by decide +kernel
theorem dX1_holds_50 : decode cX1_holds 50 = .ok (.sipush 10006, 3) := by decide +kernel
theorem dX1_holds_53 : decode cX1_holds 53 = .ok (.if_icmp .lt 35, 3) := by decide +kernel
theorem dX1_holds_56 : decode cX1_holds 56 = .ok (.iload 6, 2) := by decide +kernel
theorem dX1_holds_58 : decode cX1_holds 58 = .ok (.sipush 10015, 3) := by decide +kernel
theorem dX1_holds_61 : decode cX1_holds 61 = .ok (.if_icmp .gt 27, 3) := by decide +kernel
theorem dX1_holds_64 : decode cX1_holds 64 = .ok (.aload_n 0, 1) := by decide +kernel
theorem dX1_holds_65 : decode cX1_holds 65 = .ok (.getfield 15, 3) := by decide +kernel
theorem dX1_holds_68 : decode cX1_holds 68 = .ok (.iload 4, 2) := by decide +kernel
theorem dX1_holds_70 : decode cX1_holds 70 = .ok (.aload_n 0, 1) := by decide +kernel
theorem dX1_holds_71 : decode cX1_holds 71 = .ok (.getfield 9, 3) := by decide +kernel
theorem dX1_holds_74 : decode cX1_holds 74 = .ok (.iload 6, 2) := by decide +kernel
theorem dX1_holds_76 : decode cX1_holds 76 = .ok (.sipush 10006, 3) := by decide +kernel
theorem dX1_holds_79 : decode cX1_holds 79 = .ok (.isub, 1) := by decide +kernel
theorem dX1_holds_80 : decode cX1_holds 80 = .ok (.iaload, 1) := by decide +kernel
theorem dX1_holds_81 : decode cX1_holds 81 = .ok (.iastore, 1) := by decide +kernel
theorem dX1_holds_82 : decode cX1_holds 82 = .ok (.iinc 4 1, 3) := by decide +kernel
theorem dX1_holds_85 : decode cX1_holds 85 = .ok (.goto 79, 3) := by decide +kernel
theorem dX1_holds_88 : decode cX1_holds 88 = .ok (.iload 6, 2) := by decide +kernel
theorem dX1_holds_90 : decode cX1_holds 90 = .ok (.sipush 10005, 3) := by decide +kernel
theorem dX1_holds_93 : decode cX1_holds 93 = .ok (.if_icmp .ne 32, 3) := by decide +kernel
theorem dX1_holds_96 : decode cX1_holds 96 = .ok (.iload 4, 2) := by decide +kernel
theorem dX1_holds_98 : decode cX1_holds 98 = .ok (.iconst 1, 1) := by decide +kernel
theorem dX1_holds_99 : decode cX1_holds 99 = .ok (.if_icmp .lt 26, 3) := by decide +kernel
theorem dX1_holds_102 : decode cX1_holds 102 = .ok (.aload_n 0, 1) := by decide +kernel
theorem dX1_holds_103 : decode cX1_holds 103 = .ok (.getfield 15, 3) := by decide +kernel
theorem dX1_holds_106 : decode cX1_holds 106 = .ok (.iload 4, 2) := by decide +kernel
theorem dX1_holds_108 : decode cX1_holds 108 = .ok (.iconst 1, 1) := by decide +kernel
theorem dX1_holds_109 : decode cX1_holds 109 = .ok (.isub, 1) := by decide +kernel
theorem dX1_holds_110 : decode cX1_holds 110 = .ok (.iconst 1, 1) := by decide +kernel
theorem dX1_holds_111 : decode cX1_holds 111 = .ok (.aload_n 0, 1) := by decide +kernel
theorem dX1_holds_112 : decode cX1_holds 112 = .ok (.getfield 15, 3) := by decide +kernel
theorem dX1_holds_115 : decode cX1_holds 115 = .ok (.iload 4, 2) := by decide +kernel
theorem dX1_holds_117 : decode cX1_holds 117 = .ok (.iconst 1, 1) := by decide +kernel
theorem dX1_holds_118 : decode cX1_holds 118 = .ok (.isub, 1) := by decide +kernel
theorem dX1_holds_119 : decode cX1_holds 119 = .ok (.iaload, 1) := by decide +kernel
theorem dX1_holds_120 : decode cX1_holds 120 = .ok (.isub, 1) := by decide +kernel
theorem dX1_holds_121 : decode cX1_holds 121 = .ok (.iastore, 1) := by decide +kernel
theorem dX1_holds_122 : decode cX1_holds 122 = .ok (.goto 42, 3) := by decide +kernel
theorem dX1_holds_125 : decode cX1_holds 125 = .ok (.iload 4, 2) := by decide +kernel
theorem dX1_holds_127 : decode cX1_holds 127 = .ok (.iconst 2, 1) := by decide +kernel
theorem dX1_holds_128 : decode cX1_holds 128 = .ok (.if_icmp .lt 36, 3) := by decide +kernel
theorem dX1_holds_131 : decode cX1_holds 131 = .ok (.iinc 4 (-1), 3) := by decide +kernel
theorem dX1_holds_134 : decode cX1_holds 134 = .ok (.aload_n 0, 1) := by decide +kernel
theorem dX1_holds_135 : decode cX1_holds 135 = .ok (.getfield 15, 3) := by decide +kernel
theorem dX1_holds_138 : decode cX1_holds 138 = .ok (.iload 4, 2) := by decide +kernel
theorem dX1_holds_140 : decode cX1_holds 140 = .ok (.iconst 1, 1) := by decide +kernel
theorem dX1_holds_141 : decode cX1_holds 141 = .ok (.isub, 1) := by decide +kernel
theorem dX1_holds_142 : decode cX1_holds 142 = .ok (.iload 6, 2) := by decide +kernel
theorem dX1_holds_144 : decode cX1_holds 144 = .ok (.aload_n 0, 1) := by decide +kernel
theorem dX1_holds_145 : decode cX1_holds 145 = .ok (.getfield 15, 3) := by decide +kernel
theorem dX1_holds_148 : decode cX1_holds 148 = .ok (.iload 4, 2) := by decide +kernel
theorem dX1_holds_150 : decode cX1_holds 150 = .ok (.iconst 1, 1) := by decide +kernel
theorem dX1_holds_151 : decode cX1_holds 151 = .ok (.isub, 1) := by decide +kernel
theorem dX1_holds_152 : decode cX1_holds 152 = .ok (.iaload, 1) := by decide +kernel
theorem dX1_holds_153 : decode cX1_holds 153 = .ok (.aload_n 0, 1) := by decide +kernel
theorem dX1_holds_154 : decode cX1_holds 154 = .ok (.getfield 15, 3) := by decide +kernel
theorem dX1_holds_157 : decode cX1_holds 157 = .ok (.iload 4, 2) := by decide +kernel
theorem dX1_holds_159 : decode cX1_holds 159 = .ok (.iaload, 1) := by decide +kernel
theorem dX1_holds_160 : decode cX1_holds 160 = .ok (.invokestatic 93, 3) := by decide +kernel
theorem dX1_holds_163 : decode cX1_holds 163 = .ok (.iastore, 1) := by decide +kernel
theorem dX1_holds_164 : decode cX1_holds 164 = .ok (.iinc 5 1, 3) := by decide +kernel
theorem dX1_holds_167 : decode cX1_holds 167 = .ok (.goto (-161), 3) := by decide +kernel
theorem dX1_holds_170 : decode cX1_holds 170 = .ok (.iload 4, 2) := by decide +kernel
theorem dX1_holds_172 : decode cX1_holds 172 = .ok (.ifCond .le 20, 3) := by decide +kernel
theorem dX1_holds_175 : decode cX1_holds 175 = .ok (.aload_n 0, 1) := by decide +kernel
theorem dX1_holds_176 : decode cX1_holds 176 = .ok (.getfield 15, 3) := by decide +kernel
theorem dX1_holds_179 : decode cX1_holds 179 = .ok (.iload 4, 2) := by decide +kernel
theorem dX1_holds_181 : decode cX1_holds 181 = .ok (.iconst 1, 1) := by decide +kernel
theorem dX1_holds_182 : decode cX1_holds 182 = .ok (.isub, 1) := by decide +kernel
theorem dX1_holds_183 : decode cX1_holds 183 = .ok (.iaload, 1) := by decide +kernel
theorem dX1_holds_184 : decode cX1_holds 184 = .ok (.iconst 1, 1) := by decide +kernel
theorem dX1_holds_185 : decode cX1_holds 185 = .ok (.if_icmp .ne 7, 3) := by decide +kernel
theorem dX1_holds_188 : decode cX1_holds 188 = .ok (.iconst 1, 1) := by decide +kernel
theorem dX1_holds_189 : decode cX1_holds 189 = .ok (.goto 4, 3) := by decide +kernel
theorem dX1_holds_192 : decode cX1_holds 192 = .ok (.iconst 0, 1) := by decide +kernel
theorem dX1_holds_193 : decode cX1_holds 193 = .ok (.ireturn, 1) := by decide +kernel
theorem dX1_worked_0 : decode cX1_worked 0 = .ok (.iload_n 0, 1) := by decide +kernel
theorem dX1_worked_1 : decode cX1_worked 1 = .ok (.lookupswitch 136 #[(10004, 132), (10101, 75), (10102, 79), (10103, 83), (10104, 87), (10107, 99), (10108, 110), (10109, 121)], 75) := by decide +kernel
theorem dX1_worked_76 : decode cX1_worked 76 = .ok (.iload_n 1, 1) := by decide +kernel
theorem dX1_worked_77 : decode cX1_worked 77 = .ok (.iload_n 2, 1) := by decide +kernel
theorem dX1_worked_78 : decode cX1_worked 78 = .ok (.iadd, 1) := by decide +kernel
theorem dX1_worked_79 : decode cX1_worked 79 = .ok (.ireturn, 1) := by decide +kernel
theorem dX1_worked_80 : decode cX1_worked 80 = .ok (.iload_n 1, 1) := by decide +kernel
theorem dX1_worked_81 : decode cX1_worked 81 = .ok (.iload_n 2, 1) := by decide +kernel
theorem dX1_worked_82 : decode cX1_worked 82 = .ok (.isub, 1) := by decide +kernel
theorem dX1_worked_83 : decode cX1_worked 83 = .ok (.ireturn, 1) := by decide +kernel
theorem dX1_worked_84 : decode cX1_worked 84 = .ok (.iload_n 1, 1) := by decide +kernel
theorem dX1_worked_85 : decode cX1_worked 85 = .ok (.iload_n 2, 1) := by decide +kernel
theorem dX1_worked_86 : decode cX1_worked 86 = .ok (.imul, 1) := by decide +kernel
theorem dX1_worked_87 : decode cX1_worked 87 = .ok (.ireturn, 1) := by decide +kernel
theorem dX1_worked_88 : decode cX1_worked 88 = .ok (.iload_n 2, 1) := by decide +kernel
theorem dX1_worked_89 : decode cX1_worked 89 = .ok (.ifCond .ne 7, 3) := by decide +kernel
theorem dX1_worked_92 : decode cX1_worked 92 = .ok (.iconst 0, 1) := by decide +kernel
theorem dX1_worked_93 : decode cX1_worked 93 = .ok (.goto 6, 3) := by decide +kernel
theorem dX1_worked_96 : decode cX1_worked 96 = .ok (.iload_n 1, 1) := by decide +kernel
theorem dX1_worked_97 : decode cX1_worked 97 = .ok (.iload_n 2, 1) := by decide +kernel
theorem dX1_worked_98 : decode cX1_worked 98 = .ok (.idiv, 1) := by decide +kernel
theorem dX1_worked_99 : decode cX1_worked 99 = .ok (.ireturn, 1) := by decide +kernel
theorem dX1_worked_100 : decode cX1_worked 100 = .ok (.iload_n 1, 1) := by decide +kernel
theorem dX1_worked_101 : decode cX1_worked 101 = .ok (.iload_n 2, 1) := by decide +kernel
theorem dX1_worked_102 : decode cX1_worked 102 = .ok (.if_icmp .ge 7, 3) := by decide +kernel
theorem dX1_worked_105 : decode cX1_worked 105 = .ok (.iconst 1, 1) := by decide +kernel
theorem dX1_worked_106 : decode cX1_worked 106 = .ok (.goto 4, 3) := by decide +kernel
theorem dX1_worked_109 : decode cX1_worked 109 = .ok (.iconst 0, 1) := by decide +kernel
theorem dX1_worked_110 : decode cX1_worked 110 = .ok (.ireturn, 1) := by decide +kernel
theorem dX1_worked_111 : decode cX1_worked 111 = .ok (.iload_n 1, 1) := by decide +kernel
theorem dX1_worked_112 : decode cX1_worked 112 = .ok (.iload_n 2, 1) := by decide +kernel
theorem dX1_worked_113 : decode cX1_worked 113 = .ok (.if_icmp .ne 7, 3) := by decide +kernel
theorem dX1_worked_116 : decode cX1_worked 116 = .ok (.iconst 1, 1) := by decide +kernel
theorem dX1_worked_117 : decode cX1_worked 117 = .ok (.goto 4, 3) := by decide +kernel
theorem dX1_worked_120 : decode cX1_worked 120 = .ok (.iconst 0, 1) := by decide +kernel
theorem dX1_worked_121 : decode cX1_worked 121 = .ok (.ireturn, 1) := by decide +kernel
theorem dX1_worked_122 : decode cX1_worked 122 = .ok (.iload_n 1, 1) := by decide +kernel
theorem dX1_worked_123 : decode cX1_worked 123 = .ok (.iload_n 2, 1) := by decide +kernel
theorem dX1_worked_124 : decode cX1_worked 124 = .ok (.if_icmp .le 7, 3) := by decide +kernel
theorem dX1_worked_127 : decode cX1_worked 127 = .ok (.iconst 1, 1) := by decide +kernel
theorem dX1_worked_128 : decode cX1_worked 128 = .ok (.goto 4, 3) := by decide +kernel
theorem dX1_worked_131 : decode cX1_worked 131 = .ok (.iconst 0, 1) := by decide +kernel
theorem dX1_worked_132 : decode cX1_worked 132 = .ok (.ireturn, 1) := by decide +kernel
theorem dX1_worked_133 : decode cX1_worked 133 = .ok (.iload_n 1, 1) := by decide +kernel
theorem dX1_worked_134 : decode cX1_worked 134 = .ok (.iload_n 2, 1) := by decide +kernel
theorem dX1_worked_135 : decode cX1_worked 135 = .ok (.iand, 1) := by decide +kernel
theorem dX1_worked_136 : decode cX1_worked 136 = .ok (.ireturn, 1) := by decide +kernel
theorem dX1_worked_137 : decode cX1_worked 137 = .ok (.iload_n 1, 1) := by decide +kernel
theorem dX1_worked_138 : decode cX1_worked 138 = .ok (.iload_n 2, 1) := by decide +kernel
theorem dX1_worked_139 : decode cX1_worked 139 = .ok (.ior, 1) := by decide +kernel
theorem dX1_worked_140 : decode cX1_worked 140 = .ok (.ireturn, 1) := by decide +kernel
theorem dX2_init_0 : decode cX2_init 0 = .ok (.aload_n 0, 1) := by decide +kernel
theorem dX2_init_1 : decode cX2_init 1 = .ok (.invokespecial 3, 3) := by decide +kernel
theorem dX2_init_4 : decode cX2_init 4 = .ok (.aload_n 0, 1) := by decide +kernel
theorem dX2_init_5 : decode cX2_init 5 = .ok (.bipush 7, 2) := by decide +kernel
theorem dX2_init_7 : decode cX2_init 7 = .ok (.newarray .int, 2) := by decide +kernel
theorem dX2_init_9 : decode cX2_init 9 = .ok (.putfield 9, 3) := by decide +kernel
theorem dX2_init_12 : decode cX2_init 12 = .ok (.aload_n 0, 1) := by decide +kernel
theorem dX2_init_13 : decode cX2_init 13 = .ok (.new 15, 3) := by decide +kernel
theorem dX2_init_16 : decode cX2_init 16 = .ok (.dup, 1) := by decide +kernel
theorem dX2_init_17 : decode cX2_init 17 = .ok (.invokespecial 17, 3) := by decide +kernel
theorem dX2_init_20 : decode cX2_init 20 = .ok (.putfield 18, 3) := by decide +kernel
theorem dX2_init_23 : decode cX2_init 23 = .ok (.aload_n 0, 1) := by decide +kernel
theorem dX2_init_24 : decode cX2_init 24 = .ok (.bipush 24, 2) := by decide +kernel
theorem dX2_init_26 : decode cX2_init 26 = .ok (.newarray .int, 2) := by decide +kernel
theorem dX2_init_28 : decode cX2_init 28 = .ok (.putfield 22, 3) := by decide +kernel
theorem dX2_init_31 : decode cX2_init 31 = .ok (.aload_n 0, 1) := by decide +kernel
theorem dX2_init_32 : decode cX2_init 32 = .ok (.bipush 6, 2) := by decide +kernel
theorem dX2_init_34 : decode cX2_init 34 = .ok (.newarray .int, 2) := by decide +kernel
theorem dX2_init_36 : decode cX2_init 36 = .ok (.putfield 25, 3) := by decide +kernel
theorem dX2_init_39 : decode cX2_init 39 = .ok (.aload_n 0, 1) := by decide +kernel
theorem dX2_init_40 : decode cX2_init 40 = .ok (.bipush 6, 2) := by decide +kernel
theorem dX2_init_42 : decode cX2_init 42 = .ok (.newarray .int, 2) := by decide +kernel
theorem dX2_init_44 : decode cX2_init 44 = .ok (.putfield 28, 3) := by decide +kernel
theorem dX2_init_47 : decode cX2_init 47 = .ok (.aload_n 0, 1) := by decide +kernel
theorem dX2_init_48 : decode cX2_init 48 = .ok (.bipush 10, 2) := by decide +kernel
theorem dX2_init_50 : decode cX2_init 50 = .ok (.newarray .int, 2) := by decide +kernel
theorem dX2_init_52 : decode cX2_init 52 = .ok (.putfield 31, 3) := by decide +kernel
theorem dX2_init_55 : decode cX2_init 55 = .ok (.aload_n 0, 1) := by decide +kernel
theorem dX2_init_56 : decode cX2_init 56 = .ok (.bipush 12, 2) := by decide +kernel
theorem dX2_init_58 : decode cX2_init 58 = .ok (.newarray .int, 2) := by decide +kernel
theorem dX2_init_60 : decode cX2_init 60 = .ok (.putfield 34, 3) := by decide +kernel
theorem dX2_init_63 : decode cX2_init 63 = .ok (.aload_n 0, 1) := by decide +kernel
theorem dX2_init_64 : decode cX2_init 64 = .ok (.bipush 12, 2) := by decide +kernel
theorem dX2_init_66 : decode cX2_init 66 = .ok (.newarray .int, 2) := by decide +kernel
theorem dX2_init_68 : decode cX2_init 68 = .ok (.putfield 37, 3) := by decide +kernel
theorem dX2_init_71 : decode cX2_init 71 = .ok (.aload_n 0, 1) := by decide +kernel
theorem dX2_init_72 : decode cX2_init 72 = .ok (.bipush 12, 2) := by decide +kernel
theorem dX2_init_74 : decode cX2_init 74 = .ok (.newarray .int, 2) := by decide +kernel
theorem dX2_init_76 : decode cX2_init 76 = .ok (.putfield 40, 3) := by decide +kernel
theorem dX2_init_79 : decode cX2_init 79 = .ok (.aload_n 0, 1) := by decide +kernel
theorem dX2_init_80 : decode cX2_init 80 = .ok (.new 43, 3) := by decide +kernel
theorem dX2_init_83 : decode cX2_init 83 = .ok (.dup, 1) := by decide +kernel
theorem dX2_init_84 : decode cX2_init 84 = .ok (.invokespecial 45, 3) := by decide +kernel
theorem dX2_init_87 : decode cX2_init 87 = .ok (.putfield 46, 3) := by decide +kernel
theorem dX2_init_90 : decode cX2_init 90 = .ok (.aload_n 0, 1) := by decide +kernel
theorem dX2_init_91 : decode cX2_init 91 = .ok (.iconst 0, 1) := by decide +kernel
theorem dX2_init_92 : decode cX2_init 92 = .ok (.putfield 50, 3) := by decide +kernel
theorem dX2_init_95 : decode cX2_init 95 = .ok (.aload_n 0, 1) := by decide +kernel
theorem dX2_init_96 : decode cX2_init 96 = .ok (.iconst 5, 1) := by decide +kernel
theorem dX2_init_97 : decode cX2_init 97 = .ok (.invokevirtual 54, 3) := by decide +kernel
theorem dX2_init_100 : decode cX2_init 100 = .ok (.return_, 1) := by decide +kernel
theorem dX2_beginAnew_0 : decode cX2_beginAnew 0 = .ok (.aload_n 0, 1) := by decide +kernel
theorem dX2_beginAnew_1 : decode cX2_beginAnew 1 = .ok (.iload_n 1, 1) := by decide +kernel
theorem dX2_beginAnew_2 : decode cX2_beginAnew 2 = .ok (.putfield 58, 3) := by decide +kernel
theorem dX2_beginAnew_5 : decode cX2_beginAnew 5 = .ok (.aload_n 0, 1) := by decide +kernel
theorem dX2_beginAnew_6 : decode cX2_beginAnew 6 = .ok (.iload_n 1, 1) := by decide +kernel
theorem dX2_beginAnew_7 : decode cX2_beginAnew 7 = .ok (.invokestatic 61, 3) := by decide +kernel
theorem dX2_beginAnew_10 : decode cX2_beginAnew 10 = .ok (.putfield 67, 3) := by decide +kernel
theorem dX2_beginAnew_13 : decode cX2_beginAnew 13 = .ok (.aload_n 0, 1) := by decide +kernel
theorem dX2_beginAnew_14 : decode cX2_beginAnew 14 = .ok (.iconst 0, 1) := by decide +kernel
theorem dX2_beginAnew_15 : decode cX2_beginAnew 15 = .ok (.putfield 70, 3) := by decide +kernel
theorem dX2_beginAnew_18 : decode cX2_beginAnew 18 = .ok (.aload_n 0, 1) := by decide +kernel
theorem dX2_beginAnew_19 : decode cX2_beginAnew 19 = .ok (.getfield 18, 3) := by decide +kernel
theorem dX2_beginAnew_22 : decode cX2_beginAnew 22 = .ok (.iconst 0, 1) := by decide +kernel
theorem dX2_beginAnew_23 : decode cX2_beginAnew 23 = .ok (.putfield 73, 3) := by decide +kernel
theorem dX2_beginAnew_26 : decode cX2_beginAnew 26 = .ok (.aload_n 0, 1) := by decide +kernel
theorem dX2_beginAnew_27 : decode cX2_beginAnew 27 = .ok (.iconst 0, 1) := by decide +kernel
theorem dX2_beginAnew_28 : decode cX2_beginAnew 28 = .ok (.putfield 76, 3) := by decide +kernel
theorem dX2_beginAnew_31 : decode cX2_beginAnew 31 = .ok (.aload_n 0, 1) := by decide +kernel
theorem dX2_beginAnew_32 : decode cX2_beginAnew 32 = .ok (.iconst 0, 1) := by decide +kernel
theorem dX2_beginAnew_33 : decode cX2_beginAnew 33 = .ok (.putfield 79, 3) := by decide +kernel
theorem dX2_beginAnew_36 : decode cX2_beginAnew 36 = .ok (.aload_n 0, 1) := by decide +kernel
theorem dX2_beginAnew_37 : decode cX2_beginAnew 37 = .ok (.getfield 46, 3) := by decide +kernel
theorem dX2_beginAnew_40 : decode cX2_beginAnew 40 = .ok (.invokevirtual 82, 3) := by decide +kernel
theorem dX2_beginAnew_43 : decode cX2_beginAnew 43 = .ok (.getstatic 85, 3) := by decide +kernel
theorem dX2_beginAnew_46 : decode cX2_beginAnew 46 = .ok (.iconst 0, 1) := by decide +kernel
theorem dX2_beginAnew_47 : decode cX2_beginAnew 47 = .ok (.aload_n 0, 1) := by decide +kernel
theorem dX2_beginAnew_48 : decode cX2_beginAnew 48 = .ok (.getfield 9, 3) := by decide +kernel
theorem dX2_beginAnew_51 : decode cX2_beginAnew 51 = .ok (.iconst 0, 1) := by decide +kernel
theorem dX2_beginAnew_52 : decode cX2_beginAnew 52 = .ok (.bipush 7, 2) := by decide +kernel
theorem dX2_beginAnew_54 : decode cX2_beginAnew 54 = .ok (.invokestatic 88, 3) := by decide +kernel
theorem dX2_beginAnew_57 : decode cX2_beginAnew 57 = .ok (.iconst 0, 1) := by decide +kernel
theorem dX2_beginAnew_58 : decode cX2_beginAnew 58 = .ok (.istore_n 2, 1) := by decide +kernel
theorem dX2_beginAnew_59 : decode cX2_beginAnew 59 = .ok (.iload_n 2, 1) := by decide +kernel
theorem dX2_beginAnew_60 : decode cX2_beginAnew 60 = .ok (.aload_n 0, 1) := by decide +kernel
theorem dX2_beginAnew_61 : decode cX2_beginAnew 61 = .ok (.getfield 22, 3) := by decide +kernel
theorem dX2_beginAnew_64 : decode cX2_beginAnew 64 = .ok (.arraylength, 1) := by decide +kernel
theorem dX2_beginAnew_65 : decode cX2_beginAnew 65 = .ok (.if_icmp .ge 16, 3) := by decide +kernel
theorem dX2_beginAnew_68 : decode cX2_beginAnew 68 = .ok (.aload_n 0, 1) := by decide +kernel
theorem dX2_beginAnew_69 : decode cX2_beginAnew 69 = .ok (.getfield 22, 3) := by decide +kernel
theorem dX2_beginAnew_72 : decode cX2_beginAnew 72 = .ok (.iload_n 2, 1) := by decide +kernel
theorem dX2_beginAnew_73 : decode cX2_beginAnew 73 = .ok (.iconst 0, 1) := by decide +kernel
theorem dX2_beginAnew_74 : decode cX2_beginAnew 74 = .ok (.iastore, 1) := by decide +kernel
theorem dX2_beginAnew_75 : decode cX2_beginAnew 75 = .ok (.iinc 2 1, 3) := by decide +kernel
theorem dX2_beginAnew_78 : decode cX2_beginAnew 78 = .ok (.goto (-19), 3) := by decide +kernel
theorem dX2_beginAnew_81 : decode cX2_beginAnew 81 = .ok (.iconst 0, 1) := by decide +kernel
theorem dX2_beginAnew_82 : decode cX2_beginAnew 82 = .ok (.istore_n 2, 1) := by decide +kernel
theorem dX2_beginAnew_83 : decode cX2_beginAnew 83 = .ok (.iload_n 2, 1) := by decide +kernel
theorem dX2_beginAnew_84 : decode cX2_beginAnew 84 = .ok (.bipush 6, 2) := by decide +kernel
theorem dX2_beginAnew_86 : decode cX2_beginAnew 86 = .ok (.if_icmp .ge 23, 3) := by decide +kernel
theorem dX2_beginAnew_89 : decode cX2_beginAnew 89 = .ok (.aload_n 0, 1) := by decide +kernel
theorem dX2_beginAnew_90 : decode cX2_beginAnew 90 = .ok (.getfield 25, 3) := by decide +kernel
theorem dX2_beginAnew_93 : decode cX2_beginAnew 93 = .ok (.iload_n 2, 1) := by decide +kernel
theorem dX2_beginAnew_94 : decode cX2_beginAnew 94 = .ok (.iconst (-1), 1) := by decide +kernel
theorem dX2_beginAnew_95 : decode cX2_beginAnew 95 = .ok (.iastore, 1) := by decide +kernel
theorem dX2_beginAnew_96 : decode cX2_beginAnew 96 = .ok (.aload_n 0, 1) := by decide +kernel
theorem dX2_beginAnew_97 : decode cX2_beginAnew 97 = .ok (.getfield 28, 3) := by decide +kernel
theorem dX2_beginAnew_100 : decode cX2_beginAnew 100 = .ok (.iload_n 2, 1) := by decide +kernel
theorem dX2_beginAnew_101 : decode cX2_beginAnew 101 = .ok (.iconst 0, 1) := by decide +kernel
theorem dX2_beginAnew_102 : decode cX2_beginAnew 102 = .ok (.iastore, 1) := by decide +kernel
theorem dX2_beginAnew_103 : decode cX2_beginAnew 103 = .ok (.iinc 2 1, 3) := by decide +kernel
theorem dX2_beginAnew_106 : decode cX2_beginAnew 106 = .ok (.goto (-23), 3) := by decide +kernel
theorem dX2_beginAnew_109 : decode cX2_beginAnew 109 = .ok (.return_, 1) := by decide +kernel
theorem dX2_copyFrom_0 : decode cX2_copyFrom 0 = .ok (.aload_n 0, 1) := by decide +kernel
theorem dX2_copyFrom_1 : decode cX2_copyFrom 1 = .ok (.aload_n 1, 1) := by decide +kernel
theorem dX2_copyFrom_2 : decode cX2_copyFrom 2 = .ok (.getfield 58, 3) := by decide +kernel
theorem dX2_copyFrom_5 : decode cX2_copyFrom 5 = .ok (.putfield 58, 3) := by decide +kernel
theorem dX2_copyFrom_8 : decode cX2_copyFrom 8 = .ok (.aload_n 0, 1) := by decide +kernel
theorem dX2_copyFrom_9 : decode cX2_copyFrom 9 = .ok (.aload_n 1, 1) := by decide +kernel
theorem dX2_copyFrom_10 : decode cX2_copyFrom 10 = .ok (.getfield 50, 3) := by decide +kernel
theorem dX2_copyFrom_13 : decode cX2_copyFrom 13 = .ok (.putfield 50, 3) := by decide +kernel
theorem dX2_copyFrom_16 : decode cX2_copyFrom 16 = .ok (.aload_n 0, 1) := by decide +kernel
theorem dX2_copyFrom_17 : decode cX2_copyFrom 17 = .ok (.aload_n 1, 1) := by decide +kernel
theorem dX2_copyFrom_18 : decode cX2_copyFrom 18 = .ok (.getfield 67, 3) := by decide +kernel
theorem dX2_copyFrom_21 : decode cX2_copyFrom 21 = .ok (.putfield 67, 3) := by decide +kernel
theorem dX2_copyFrom_24 : decode cX2_copyFrom 24 = .ok (.aload_n 0, 1) := by decide +kernel
theorem dX2_copyFrom_25 : decode cX2_copyFrom 25 = .ok (.aload_n 1, 1) := by decide +kernel
theorem dX2_copyFrom_26 : decode cX2_copyFrom 26 = .ok (.getfield 70, 3) := by decide +kernel
theorem dX2_copyFrom_29 : decode cX2_copyFrom 29 = .ok (.putfield 70, 3) := by decide +kernel
theorem dX2_copyFrom_32 : decode cX2_copyFrom 32 = .ok (.aload_n 0, 1) := by decide +kernel
theorem dX2_copyFrom_33 : decode cX2_copyFrom 33 = .ok (.getfield 18, 3) := by decide +kernel
theorem dX2_copyFrom_36 : decode cX2_copyFrom 36 = .ok (.aload_n 1, 1) := by decide +kernel
theorem dX2_copyFrom_37 : decode cX2_copyFrom 37 = .ok (.getfield 18, 3) := by decide +kernel
theorem dX2_copyFrom_40 : decode cX2_copyFrom 40 = .ok (.invokevirtual 94, 3) := by decide +kernel
theorem dX2_copyFrom_43 : decode cX2_copyFrom 43 = .ok (.aload_n 0, 1) := by decide +kernel
theorem dX2_copyFrom_44 : decode cX2_copyFrom 44 = .ok (.aload_n 1, 1) := by decide +kernel
theorem dX2_copyFrom_45 : decode cX2_copyFrom 45 = .ok (.getfield 76, 3) := by decide +kernel
theorem dX2_copyFrom_48 : decode cX2_copyFrom 48 = .ok (.putfield 76, 3) := by decide +kernel
theorem dX2_copyFrom_51 : decode cX2_copyFrom 51 = .ok (.aload_n 0, 1) := by decide +kernel
theorem dX2_copyFrom_52 : decode cX2_copyFrom 52 = .ok (.aload_n 1, 1) := by decide +kernel
theorem dX2_copyFrom_53 : decode cX2_copyFrom 53 = .ok (.getfield 79, 3) := by decide +kernel
theorem dX2_copyFrom_56 : decode cX2_copyFrom 56 = .ok (.putfield 79, 3) := by decide +kernel
theorem dX2_copyFrom_59 : decode cX2_copyFrom 59 = .ok (.aload_n 0, 1) := by decide +kernel
theorem dX2_copyFrom_60 : decode cX2_copyFrom 60 = .ok (.getfield 46, 3) := by decide +kernel
theorem dX2_copyFrom_63 : decode cX2_copyFrom 63 = .ok (.aload_n 1, 1) := by decide +kernel
theorem dX2_copyFrom_64 : decode cX2_copyFrom 64 = .ok (.getfield 46, 3) := by decide +kernel
theorem dX2_copyFrom_67 : decode cX2_copyFrom 67 = .ok (.invokevirtual 98, 3) := by decide +kernel
theorem dX2_copyFrom_70 : decode cX2_copyFrom 70 = .ok (.aload_n 1, 1) := by decide +kernel
theorem dX2_copyFrom_71 : decode cX2_copyFrom 71 = .ok (.getfield 9, 3) := by decide +kernel
theorem dX2_copyFrom_74 : decode cX2_copyFrom 74 = .ok (.iconst 0, 1) := by decide +kernel
theorem dX2_copyFrom_75 : decode cX2_copyFrom 75 = .ok (.aload_n 0, 1) := by decide +kernel
theorem dX2_copyFrom_76 : decode cX2_copyFrom 76 = .ok (.getfield 9, 3) := by decide +kernel
theorem dX2_copyFrom_79 : decode cX2_copyFrom 79 = .ok (.iconst 0, 1) := by decide +kernel
theorem dX2_copyFrom_80 : decode cX2_copyFrom 80 = .ok (.bipush 7, 2) := by decide +kernel
theorem dX2_copyFrom_82 : decode cX2_copyFrom 82 = .ok (.invokestatic 88, 3) := by decide +kernel
theorem dX2_copyFrom_85 : decode cX2_copyFrom 85 = .ok (.aload_n 1, 1) := by decide +kernel
theorem dX2_copyFrom_86 : decode cX2_copyFrom 86 = .ok (.getfield 22, 3) := by decide +kernel
theorem dX2_copyFrom_89 : decode cX2_copyFrom 89 = .ok (.iconst 0, 1) := by decide +kernel
theorem dX2_copyFrom_90 : decode cX2_copyFrom 90 = .ok (.aload_n 0, 1) := by decide +kernel
theorem dX2_copyFrom_91 : decode cX2_copyFrom 91 = .ok (.getfield 22, 3) := by decide +kernel
theorem dX2_copyFrom_94 : decode cX2_copyFrom 94 = .ok (.iconst 0, 1) := by decide +kernel
theorem dX2_copyFrom_95 : decode cX2_copyFrom 95 = .ok (.bipush 24, 2) := by decide +kernel
theorem dX2_copyFrom_97 : decode cX2_copyFrom 97 = .ok (.invokestatic 88, 3) := by decide +kernel
theorem dX2_copyFrom_100 : decode cX2_copyFrom 100 = .ok (.aload_n 1, 1) := by decide +kernel
theorem dX2_copyFrom_101 : decode cX2_copyFrom 101 = .ok (.getfield 25, 3) := by decide +kernel
theorem dX2_copyFrom_104 : decode cX2_copyFrom 104 = .ok (.iconst 0, 1) := by decide +kernel
theorem dX2_copyFrom_105 : decode cX2_copyFrom 105 = .ok (.aload_n 0, 1) := by decide +kernel
theorem dX2_copyFrom_106 : decode cX2_copyFrom 106 = .ok (.getfield 25, 3) := by decide +kernel
theorem dX2_copyFrom_109 : decode cX2_copyFrom 109 = .ok (.iconst 0, 1) := by decide +kernel
theorem dX2_copyFrom_110 : decode cX2_copyFrom 110 = .ok (.bipush 6, 2) := by decide +kernel
theorem dX2_copyFrom_112 : decode cX2_copyFrom 112 = .ok (.invokestatic 88, 3) := by decide +kernel
theorem dX2_copyFrom_115 : decode cX2_copyFrom 115 = .ok (.aload_n 1, 1) := by decide +kernel
theorem dX2_copyFrom_116 : decode cX2_copyFrom 116 = .ok (.getfield 28, 3) := by decide +kernel
theorem dX2_copyFrom_119 : decode cX2_copyFrom 119 = .ok (.iconst 0, 1) := by decide +kernel
theorem dX2_copyFrom_120 : decode cX2_copyFrom 120 = .ok (.aload_n 0, 1) := by decide +kernel
theorem dX2_copyFrom_121 : decode cX2_copyFrom 121 = .ok (.getfield 28, 3) := by decide +kernel
theorem dX2_copyFrom_124 : decode cX2_copyFrom 124 = .ok (.iconst 0, 1) := by decide +kernel
theorem dX2_copyFrom_125 : decode cX2_copyFrom 125 = .ok (.bipush 6, 2) := by decide +kernel
theorem dX2_copyFrom_127 : decode cX2_copyFrom 127 = .ok (.invokestatic 88, 3) := by decide +kernel
theorem dX2_copyFrom_130 : decode cX2_copyFrom 130 = .ok (.aload_n 1, 1) := by decide +kernel
theorem dX2_copyFrom_131 : decode cX2_copyFrom 131 = .ok (.getfield 31, 3) := by decide +kernel
theorem dX2_copyFrom_134 : decode cX2_copyFrom 134 = .ok (.iconst 0, 1) := by decide +kernel
theorem dX2_copyFrom_135 : decode cX2_copyFrom 135 = .ok (.aload_n 0, 1) := by decide +kernel
theorem dX2_copyFrom_136 : decode cX2_copyFrom 136 = .ok (.getfield 31, 3) := by decide +kernel
theorem dX2_copyFrom_139 : decode cX2_copyFrom 139 = .ok (.iconst 0, 1) := by decide +kernel
theorem dX2_copyFrom_140 : decode cX2_copyFrom 140 = .ok (.bipush 10, 2) := by decide +kernel
theorem dX2_copyFrom_142 : decode cX2_copyFrom 142 = .ok (.invokestatic 88, 3) := by decide +kernel
theorem dX2_copyFrom_145 : decode cX2_copyFrom 145 = .ok (.aload_n 1, 1) := by decide +kernel
theorem dX2_copyFrom_146 : decode cX2_copyFrom 146 = .ok (.getfield 34, 3) := by decide +kernel
theorem dX2_copyFrom_149 : decode cX2_copyFrom 149 = .ok (.iconst 0, 1) := by decide +kernel
theorem dX2_copyFrom_150 : decode cX2_copyFrom 150 = .ok (.aload_n 0, 1) := by decide +kernel
theorem dX2_copyFrom_151 : decode cX2_copyFrom 151 = .ok (.getfield 34, 3) := by decide +kernel
theorem dX2_copyFrom_154 : decode cX2_copyFrom 154 = .ok (.iconst 0, 1) := by decide +kernel
theorem dX2_copyFrom_155 : decode cX2_copyFrom 155 = .ok (.bipush 12, 2) := by decide +kernel
theorem dX2_copyFrom_157 : decode cX2_copyFrom 157 = .ok (.invokestatic 88, 3) := by decide +kernel
theorem dX2_copyFrom_160 : decode cX2_copyFrom 160 = .ok (.aload_n 1, 1) := by decide +kernel
theorem dX2_copyFrom_161 : decode cX2_copyFrom 161 = .ok (.getfield 37, 3) := by decide +kernel
theorem dX2_copyFrom_164 : decode cX2_copyFrom 164 = .ok (.iconst 0, 1) := by decide +kernel
theorem dX2_copyFrom_165 : decode cX2_copyFrom 165 = .ok (.aload_n 0, 1) := by decide +kernel
theorem dX2_copyFrom_166 : decode cX2_copyFrom 166 = .ok (.getfield 37, 3) := by decide +kernel
theorem dX2_copyFrom_169 : decode cX2_copyFrom 169 = .ok (.iconst 0, 1) := by decide +kernel
theorem dX2_copyFrom_170 : decode cX2_copyFrom 170 = .ok (.bipush 12, 2) := by decide +kernel
theorem dX2_copyFrom_172 : decode cX2_copyFrom 172 = .ok (.invokestatic 88, 3) := by decide +kernel
theorem dX2_copyFrom_175 : decode cX2_copyFrom 175 = .ok (.aload_n 1, 1) := by decide +kernel
theorem dX2_copyFrom_176 : decode cX2_copyFrom 176 = .ok (.getfield 40, 3) := by decide +kernel
theorem dX2_copyFrom_179 : decode cX2_copyFrom 179 = .ok (.iconst 0, 1) := by decide +kernel
theorem dX2_copyFrom_180 : decode cX2_copyFrom 180 = .ok (.aload_n 0, 1) := by decide +kernel
theorem dX2_copyFrom_181 : decode cX2_copyFrom 181 = .ok (.getfield 40, 3) := by decide +kernel
theorem dX2_copyFrom_184 : decode cX2_copyFrom 184 = .ok (.iconst 0, 1) := by decide +kernel
theorem dX2_copyFrom_185 : decode cX2_copyFrom 185 = .ok (.bipush 12, 2) := by decide +kernel
theorem dX2_copyFrom_187 : decode cX2_copyFrom 187 = .ok (.invokestatic 88, 3) := by decide +kernel
theorem dX2_copyFrom_190 : decode cX2_copyFrom 190 = .ok (.return_, 1) := by decide +kernel
theorem dX2_addVoter_0 : decode cX2_addVoter 0 = .ok (.aload_n 0, 1) := by decide +kernel
theorem dX2_addVoter_1 : decode cX2_addVoter 1 = .ok (.getfield 79, 3) := by decide +kernel
theorem dX2_addVoter_4 : decode cX2_addVoter 4 = .ok (.bipush 12, 2) := by decide +kernel
theorem dX2_addVoter_6 : decode cX2_addVoter 6 = .ok (.if_icmp .lt 5, 3) := by decide +kernel
theorem dX2_addVoter_9 : decode cX2_addVoter 9 = .ok (.iconst (-1), 1) := by decide +kernel
theorem dX2_addVoter_10 : decode cX2_addVoter 10 = .ok (.ireturn, 1) := by decide +kernel
theorem dX2_addVoter_11 : decode cX2_addVoter 11 = .ok (.aload_n 0, 1) := by decide +kernel
theorem dX2_addVoter_12 : decode cX2_addVoter 12 = .ok (.getfield 34, 3) := by decide +kernel
theorem dX2_addVoter_15 : decode cX2_addVoter 15 = .ok (.aload_n 0, 1) := by decide +kernel
theorem dX2_addVoter_16 : decode cX2_addVoter 16 = .ok (.getfield 79, 3) := by decide +kernel
theorem dX2_addVoter_19 : decode cX2_addVoter 19 = .ok (.iload_n 1, 1) := by decide +kernel
theorem dX2_addVoter_20 : decode cX2_addVoter 20 = .ok (.iastore, 1) := by decide +kernel
theorem dX2_addVoter_21 : decode cX2_addVoter 21 = .ok (.aload_n 0, 1) := by decide +kernel
theorem dX2_addVoter_22 : decode cX2_addVoter 22 = .ok (.getfield 37, 3) := by decide +kernel
theorem dX2_addVoter_25 : decode cX2_addVoter 25 = .ok (.aload_n 0, 1) := by decide +kernel
theorem dX2_addVoter_26 : decode cX2_addVoter 26 = .ok (.getfield 79, 3) := by decide +kernel
theorem dX2_addVoter_29 : decode cX2_addVoter 29 = .ok (.iload_n 2, 1) := by decide +kernel
theorem dX2_addVoter_30 : decode cX2_addVoter 30 = .ok (.iastore, 1) := by decide +kernel
theorem dX2_addVoter_31 : decode cX2_addVoter 31 = .ok (.aload_n 0, 1) := by decide +kernel
theorem dX2_addVoter_32 : decode cX2_addVoter 32 = .ok (.getfield 40, 3) := by decide +kernel
theorem dX2_addVoter_35 : decode cX2_addVoter 35 = .ok (.aload_n 0, 1) := by decide +kernel
theorem dX2_addVoter_36 : decode cX2_addVoter 36 = .ok (.getfield 79, 3) := by decide +kernel
theorem dX2_addVoter_39 : decode cX2_addVoter 39 = .ok (.iload_n 3, 1) := by decide +kernel
theorem dX2_addVoter_40 : decode cX2_addVoter 40 = .ok (.iastore, 1) := by decide +kernel
theorem dX2_addVoter_41 : decode cX2_addVoter 41 = .ok (.aload_n 0, 1) := by decide +kernel
theorem dX2_addVoter_42 : decode cX2_addVoter 42 = .ok (.dup, 1) := by decide +kernel
theorem dX2_addVoter_43 : decode cX2_addVoter 43 = .ok (.getfield 79, 3) := by decide +kernel
theorem dX2_addVoter_46 : decode cX2_addVoter 46 = .ok (.iconst 1, 1) := by decide +kernel
theorem dX2_addVoter_47 : decode cX2_addVoter 47 = .ok (.iadd, 1) := by decide +kernel
theorem dX2_addVoter_48 : decode cX2_addVoter 48 = .ok (.putfield 79, 3) := by decide +kernel
theorem dX2_addVoter_51 : decode cX2_addVoter 51 = .ok (.aload_n 0, 1) := by decide +kernel
theorem dX2_addVoter_52 : decode cX2_addVoter 52 = .ok (.getfield 79, 3) := by decide +kernel
theorem dX2_addVoter_55 : decode cX2_addVoter 55 = .ok (.iconst 1, 1) := by decide +kernel
theorem dX2_addVoter_56 : decode cX2_addVoter 56 = .ok (.isub, 1) := by decide +kernel
theorem dX2_addVoter_57 : decode cX2_addVoter 57 = .ok (.ireturn, 1) := by decide +kernel
theorem dX2_draw_0 : decode cX2_draw 0 = .ok (.aload_n 0, 1) := by decide +kernel
theorem dX2_draw_1 : decode cX2_draw 1 = .ok (.ldc 101, 2) := by decide +kernel
theorem dX2_draw_3 : decode cX2_draw 3 = .ok (.aload_n 0, 1) := by decide +kernel
theorem dX2_draw_4 : decode cX2_draw 4 = .ok (.getfield 50, 3) := by decide +kernel
theorem dX2_draw_7 : decode cX2_draw 7 = .ok (.imul, 1) := by decide +kernel
theorem dX2_draw_8 : decode cX2_draw 8 = .ok (.ldc 102, 2) := by decide +kernel
theorem dX2_draw_10 : decode cX2_draw 10 = .ok (.iadd, 1) := by decide +kernel
theorem dX2_draw_11 : decode cX2_draw 11 = .ok (.putfield 50, 3) := by decide +kernel
theorem dX2_draw_14 : decode cX2_draw 14 = .ok (.iload_n 1, 1) := by decide +kernel
theorem dX2_draw_15 : decode cX2_draw 15 = .ok (.ifCond .le 15, 3) := by decide +kernel
theorem dX2_draw_18 : decode cX2_draw 18 = .ok (.aload_n 0, 1) := by decide +kernel
theorem dX2_draw_19 : decode cX2_draw 19 = .ok (.getfield 50, 3) := by decide +kernel
theorem dX2_draw_22 : decode cX2_draw 22 = .ok (.bipush 8, 2) := by decide +kernel
theorem dX2_draw_24 : decode cX2_draw 24 = .ok (.iushr, 1) := by decide +kernel
theorem dX2_draw_25 : decode cX2_draw 25 = .ok (.iload_n 1, 1) := by decide +kernel
theorem dX2_draw_26 : decode cX2_draw 26 = .ok (.irem, 1) := by decide +kernel
theorem dX2_draw_27 : decode cX2_draw 27 = .ok (.goto 4, 3) := by decide +kernel
theorem dX2_draw_30 : decode cX2_draw 30 = .ok (.iconst 0, 1) := by decide +kernel
theorem dX2_draw_31 : decode cX2_draw 31 = .ok (.ireturn, 1) := by decide +kernel
theorem dX3_init_0 : decode cX3_init 0 = .ok (.aload_n 0, 1) := by decide +kernel
theorem dX3_init_1 : decode cX3_init 1 = .ok (.invokespecial 3, 3) := by decide +kernel
theorem dX3_init_4 : decode cX3_init 4 = .ok (.aload_n 0, 1) := by decide +kernel
theorem dX3_init_5 : decode cX3_init 5 = .ok (.bipush 20, 2) := by decide +kernel
theorem dX3_init_7 : decode cX3_init 7 = .ok (.newarray .int, 2) := by decide +kernel
theorem dX3_init_9 : decode cX3_init 9 = .ok (.putfield 9, 3) := by decide +kernel
theorem dX3_init_12 : decode cX3_init 12 = .ok (.aload_n 0, 1) := by decide +kernel
theorem dX3_init_13 : decode cX3_init 13 = .ok (.bipush 20, 2) := by decide +kernel
theorem dX3_init_15 : decode cX3_init 15 = .ok (.newarray .int, 2) := by decide +kernel
theorem dX3_init_17 : decode cX3_init 17 = .ok (.putfield 15, 3) := by decide +kernel
theorem dX3_init_20 : decode cX3_init 20 = .ok (.aload_n 0, 1) := by decide +kernel
theorem dX3_init_21 : decode cX3_init 21 = .ok (.bipush 8, 2) := by decide +kernel
theorem dX3_init_23 : decode cX3_init 23 = .ok (.newarray .int, 2) := by decide +kernel
theorem dX3_init_25 : decode cX3_init 25 = .ok (.putfield 18, 3) := by decide +kernel
theorem dX3_init_28 : decode cX3_init 28 = .ok (.aload_n 0, 1) := by decide +kernel
theorem dX3_init_29 : decode cX3_init 29 = .ok (.bipush 20, 2) := by decide +kernel
theorem dX3_init_31 : decode cX3_init 31 = .ok (.newarray .int, 2) := by decide +kernel
theorem dX3_init_33 : decode cX3_init 33 = .ok (.putfield 21, 3) := by decide +kernel
theorem dX3_init_36 : decode cX3_init 36 = .ok (.aload_n 0, 1) := by decide +kernel
theorem dX3_init_37 : decode cX3_init 37 = .ok (.bipush 20, 2) := by decide +kernel
theorem dX3_init_39 : decode cX3_init 39 = .ok (.newarray .int, 2) := by decide +kernel
theorem dX3_init_41 : decode cX3_init 41 = .ok (.putfield 24, 3) := by decide +kernel
theorem dX3_init_44 : decode cX3_init 44 = .ok (.aload_n 0, 1) := by decide +kernel
theorem dX3_init_45 : decode cX3_init 45 = .ok (.iconst (-1), 1) := by decide +kernel
theorem dX3_init_46 : decode cX3_init 46 = .ok (.putfield 27, 3) := by decide +kernel
theorem dX3_init_49 : decode cX3_init 49 = .ok (.aload_n 0, 1) := by decide +kernel
theorem dX3_init_50 : decode cX3_init 50 = .ok (.iconst 0, 1) := by decide +kernel
theorem dX3_init_51 : decode cX3_init 51 = .ok (.putfield 31, 3) := by decide +kernel
theorem dX3_init_54 : decode cX3_init 54 = .ok (.return_, 1) := by decide +kernel
theorem dX3_weighPeople_0 : decode cX3_weighPeople 0 = .ok (.aload_n 1, 1) := by decide +kernel
theorem dX3_weighPeople_1 : decode cX3_weighPeople 1 = .ok (.getfield 34, 3) := by decide +kernel
theorem dX3_weighPeople_4 : decode cX3_weighPeople 4 = .ok (.getfield 40, 3) := by decide +kernel
theorem dX3_weighPeople_7 : decode cX3_weighPeople 7 = .ok (.istore_n 3, 1) := by decide +kernel
theorem dX3_weighPeople_8 : decode cX3_weighPeople 8 = .ok (.aload_n 2, 1) := by decide +kernel
theorem dX3_weighPeople_9 : decode cX3_weighPeople 9 = .ok (.aload_n 1, 1) := by decide +kernel
theorem dX3_weighPeople_10 : decode cX3_weighPeople 10 = .ok (.invokevirtual 45, 3) := by decide +kernel
theorem dX3_weighPeople_13 : decode cX3_weighPeople 13 = .ok (.aload_n 2, 1) := by decide +kernel
theorem dX3_weighPeople_14 : decode cX3_weighPeople 14 = .ok (.aload_n 1, 1) := by decide +kernel
theorem dX3_weighPeople_15 : decode cX3_weighPeople 15 = .ok (.aload_n 1, 1) := by decide +kernel
theorem dX3_weighPeople_16 : decode cX3_weighPeople 16 = .ok (.getfield 51, 3) := by decide +kernel
theorem dX3_weighPeople_19 : decode cX3_weighPeople 19 = .ok (.invokevirtual 54, 3) := by decide +kernel
theorem dX3_weighPeople_22 : decode cX3_weighPeople 22 = .ok (.iconst 0, 1) := by decide +kernel
theorem dX3_weighPeople_23 : decode cX3_weighPeople 23 = .ok (.istore 4, 2) := by decide +kernel
theorem dX3_weighPeople_25 : decode cX3_weighPeople 25 = .ok (.iload 4, 2) := by decide +kernel
theorem dX3_weighPeople_27 : decode cX3_weighPeople 27 = .ok (.iload_n 3, 1) := by decide +kernel
theorem dX3_weighPeople_28 : decode cX3_weighPeople 28 = .ok (.if_icmp .ge 22, 3) := by decide +kernel
theorem dX3_weighPeople_31 : decode cX3_weighPeople 31 = .ok (.aload_n 0, 1) := by decide +kernel
theorem dX3_weighPeople_32 : decode cX3_weighPeople 32 = .ok (.getfield 9, 3) := by decide +kernel
theorem dX3_weighPeople_35 : decode cX3_weighPeople 35 = .ok (.iload 4, 2) := by decide +kernel
theorem dX3_weighPeople_37 : decode cX3_weighPeople 37 = .ok (.aload_n 2, 1) := by decide +kernel
theorem dX3_weighPeople_38 : decode cX3_weighPeople 38 = .ok (.iload 4, 2) := by decide +kernel
theorem dX3_weighPeople_40 : decode cX3_weighPeople 40 = .ok (.invokevirtual 58, 3) := by decide +kernel
theorem dX3_weighPeople_43 : decode cX3_weighPeople 43 = .ok (.iastore, 1) := by decide +kernel
theorem dX3_weighPeople_44 : decode cX3_weighPeople 44 = .ok (.iinc 4 1, 3) := by decide +kernel
theorem dX3_weighPeople_47 : decode cX3_weighPeople 47 = .ok (.goto (-22), 3) := by decide +kernel
theorem dX3_weighPeople_50 : decode cX3_weighPeople 50 = .ok (.iconst 0, 1) := by decide +kernel
theorem dX3_weighPeople_51 : decode cX3_weighPeople 51 = .ok (.istore 4, 2) := by decide +kernel
theorem dX3_weighPeople_53 : decode cX3_weighPeople 53 = .ok (.iload 4, 2) := by decide +kernel
theorem dX3_weighPeople_55 : decode cX3_weighPeople 55 = .ok (.iload_n 3, 1) := by decide +kernel
theorem dX3_weighPeople_56 : decode cX3_weighPeople 56 = .ok (.if_icmp .ge 84, 3) := by decide +kernel
theorem dX3_weighPeople_59 : decode cX3_weighPeople 59 = .ok (.aload_n 0, 1) := by decide +kernel
theorem dX3_weighPeople_60 : decode cX3_weighPeople 60 = .ok (.getfield 15, 3) := by decide +kernel
theorem dX3_weighPeople_63 : decode cX3_weighPeople 63 = .ok (.iload 4, 2) := by decide +kernel
theorem dX3_weighPeople_65 : decode cX3_weighPeople 65 = .ok (.iload_n 3, 1) := by decide +kernel
theorem dX3_weighPeople_66 : decode cX3_weighPeople 66 = .ok (.iastore, 1) := by decide +kernel
theorem dX3_weighPeople_67 : decode cX3_weighPeople 67 = .ok (.iconst 0, 1) := by decide +kernel
theorem dX3_weighPeople_68 : decode cX3_weighPeople 68 = .ok (.istore 5, 2) := by decide +kernel
theorem dX3_weighPeople_70 : decode cX3_weighPeople 70 = .ok (.iload 5, 2) := by decide +kernel
theorem dX3_weighPeople_72 : decode cX3_weighPeople 72 = .ok (.iload_n 3, 1) := by decide +kernel
theorem dX3_weighPeople_73 : decode cX3_weighPeople 73 = .ok (.if_icmp .ge 61, 3) := by decide +kernel
theorem dX3_weighPeople_76 : decode cX3_weighPeople 76 = .ok (.aload_n 0, 1) := by decide +kernel
theorem dX3_weighPeople_77 : decode cX3_weighPeople 77 = .ok (.getfield 9, 3) := by decide +kernel
theorem dX3_weighPeople_80 : decode cX3_weighPeople 80 = .ok (.iload 5, 2) := by decide +kernel
theorem dX3_weighPeople_82 : decode cX3_weighPeople 82 = .ok (.iaload, 1) := by decide +kernel
theorem dX3_weighPeople_83 : decode cX3_weighPeople 83 = .ok (.aload_n 0, 1) := by decide +kernel
theorem dX3_weighPeople_84 : decode cX3_weighPeople 84 = .ok (.getfield 9, 3) := by decide +kernel
theorem dX3_weighPeople_87 : decode cX3_weighPeople 87 = .ok (.iload 4, 2) := by decide +kernel
theorem dX3_weighPeople_89 : decode cX3_weighPeople 89 = .ok (.iaload, 1) := by decide +kernel
theorem dX3_weighPeople_90 : decode cX3_weighPeople 90 = .ok (.if_icmp .lt 27, 3) := by decide +kernel
theorem dX3_weighPeople_93 : decode cX3_weighPeople 93 = .ok (.aload_n 0, 1) := by decide +kernel
theorem dX3_weighPeople_94 : decode cX3_weighPeople 94 = .ok (.getfield 9, 3) := by decide +kernel
theorem dX3_weighPeople_97 : decode cX3_weighPeople 97 = .ok (.iload 5, 2) := by decide +kernel
theorem dX3_weighPeople_99 : decode cX3_weighPeople 99 = .ok (.iaload, 1) := by decide +kernel
theorem dX3_weighPeople_100 : decode cX3_weighPeople 100 = .ok (.aload_n 0, 1) := by decide +kernel
theorem dX3_weighPeople_101 : decode cX3_weighPeople 101 = .ok (.getfield 9, 3) := by decide +kernel
theorem dX3_weighPeople_104 : decode cX3_weighPeople 104 = .ok (.iload 4, 2) := by decide +kernel
theorem dX3_weighPeople_106 : decode cX3_weighPeople 106 = .ok (.iaload, 1) := by decide +kernel
theorem dX3_weighPeople_107 : decode cX3_weighPeople 107 = .ok (.if_icmp .ne 21, 3) := by decide +kernel
theorem dX3_weighPeople_110 : decode cX3_weighPeople 110 = .ok (.iload 5, 2) := by decide +kernel
theorem dX3_weighPeople_112 : decode cX3_weighPeople 112 = .ok (.iload 4, 2) := by decide +kernel
theorem dX3_weighPeople_114 : decode cX3_weighPeople 114 = .ok (.if_icmp .ge 14, 3) := by decide +kernel
theorem dX3_weighPeople_117 : decode cX3_weighPeople 117 = .ok (.aload_n 0, 1) := by decide +kernel
theorem dX3_weighPeople_118 : decode cX3_weighPeople 118 = .ok (.getfield 15, 3) := by decide +kernel
theorem dX3_weighPeople_121 : decode cX3_weighPeople 121 = .ok (.iload 4, 2) := by decide +kernel
theorem dX3_weighPeople_123 : decode cX3_weighPeople 123 = .ok (.dup2, 1) := by decide +kernel
theorem dX3_weighPeople_124 : decode cX3_weighPeople 124 = .ok (.iaload, 1) := by decide +kernel
theorem dX3_weighPeople_125 : decode cX3_weighPeople 125 = .ok (.iconst 1, 1) := by decide +kernel
theorem dX3_weighPeople_126 : decode cX3_weighPeople 126 = .ok (.isub, 1) := by decide +kernel
theorem dX3_weighPeople_127 : decode cX3_weighPeople 127 = .ok (.iastore, 1) := by decide +kernel
theorem dX3_weighPeople_128 : decode cX3_weighPeople 128 = .ok (.iinc 5 1, 3) := by decide +kernel
theorem dX3_weighPeople_131 : decode cX3_weighPeople 131 = .ok (.goto (-61), 3) := by decide +kernel
theorem dX3_weighPeople_134 : decode cX3_weighPeople 134 = .ok (.iinc 4 1, 3) := by decide +kernel
theorem dX3_weighPeople_137 : decode cX3_weighPeople 137 = .ok (.goto (-84), 3) := by decide +kernel
theorem dX3_weighPeople_140 : decode cX3_weighPeople 140 = .ok (.return_, 1) := by decide +kernel
theorem dX3_harmOf_0 : decode cX3_harmOf 0 = .ok (.aload_n 2, 1) := by decide +kernel
theorem dX3_harmOf_1 : decode cX3_harmOf 1 = .ok (.aload_n 1, 1) := by decide +kernel
theorem dX3_harmOf_2 : decode cX3_harmOf 2 = .ok (.iload_n 3, 1) := by decide +kernel
theorem dX3_harmOf_3 : decode cX3_harmOf 3 = .ok (.invokevirtual 54, 3) := by decide +kernel
theorem dX3_harmOf_6 : decode cX3_harmOf 6 = .ok (.iconst 0, 1) := by decide +kernel
theorem dX3_harmOf_7 : decode cX3_harmOf 7 = .ok (.istore 4, 2) := by decide +kernel
theorem dX3_harmOf_9 : decode cX3_harmOf 9 = .ok (.iconst 0, 1) := by decide +kernel
theorem dX3_harmOf_10 : decode cX3_harmOf 10 = .ok (.istore 5, 2) := by decide +kernel
theorem dX3_harmOf_12 : decode cX3_harmOf 12 = .ok (.iload 5, 2) := by decide +kernel
theorem dX3_harmOf_14 : decode cX3_harmOf 14 = .ok (.aload_n 1, 1) := by decide +kernel
theorem dX3_harmOf_15 : decode cX3_harmOf 15 = .ok (.getfield 34, 3) := by decide +kernel
theorem dX3_harmOf_18 : decode cX3_harmOf 18 = .ok (.getfield 40, 3) := by decide +kernel
theorem dX3_harmOf_21 : decode cX3_harmOf 21 = .ok (.if_icmp .ge 40, 3) := by decide +kernel
theorem dX3_harmOf_24 : decode cX3_harmOf 24 = .ok (.iload 4, 2) := by decide +kernel
theorem dX3_harmOf_26 : decode cX3_harmOf 26 = .ok (.iconst 0, 1) := by decide +kernel
theorem dX3_harmOf_27 : decode cX3_harmOf 27 = .ok (.aload_n 0, 1) := by decide +kernel
theorem dX3_harmOf_28 : decode cX3_harmOf 28 = .ok (.getfield 9, 3) := by decide +kernel
theorem dX3_harmOf_31 : decode cX3_harmOf 31 = .ok (.iload 5, 2) := by decide +kernel
theorem dX3_harmOf_33 : decode cX3_harmOf 33 = .ok (.iaload, 1) := by decide +kernel
theorem dX3_harmOf_34 : decode cX3_harmOf 34 = .ok (.aload_n 2, 1) := by decide +kernel
theorem dX3_harmOf_35 : decode cX3_harmOf 35 = .ok (.iload 5, 2) := by decide +kernel
theorem dX3_harmOf_37 : decode cX3_harmOf 37 = .ok (.invokevirtual 58, 3) := by decide +kernel
theorem dX3_harmOf_40 : decode cX3_harmOf 40 = .ok (.isub, 1) := by decide +kernel
theorem dX3_harmOf_41 : decode cX3_harmOf 41 = .ok (.invokestatic 62, 3) := by decide +kernel
theorem dX3_harmOf_44 : decode cX3_harmOf 44 = .ok (.aload_n 0, 1) := by decide +kernel
theorem dX3_harmOf_45 : decode cX3_harmOf 45 = .ok (.getfield 15, 3) := by decide +kernel
theorem dX3_harmOf_48 : decode cX3_harmOf 48 = .ok (.iload 5, 2) := by decide +kernel
theorem dX3_harmOf_50 : decode cX3_harmOf 50 = .ok (.iaload, 1) := by decide +kernel
theorem dX3_harmOf_51 : decode cX3_harmOf 51 = .ok (.imul, 1) := by decide +kernel
theorem dX3_harmOf_52 : decode cX3_harmOf 52 = .ok (.iadd, 1) := by decide +kernel
theorem dX3_harmOf_53 : decode cX3_harmOf 53 = .ok (.istore 4, 2) := by decide +kernel
theorem dX3_harmOf_55 : decode cX3_harmOf 55 = .ok (.iinc 5 1, 3) := by decide +kernel
theorem dX3_harmOf_58 : decode cX3_harmOf 58 = .ok (.goto (-46), 3) := by decide +kernel
theorem dX3_harmOf_61 : decode cX3_harmOf 61 = .ok (.iload 4, 2) := by decide +kernel
theorem dX3_harmOf_63 : decode cX3_harmOf 63 = .ok (.ireturn, 1) := by decide +kernel
theorem dX3_findLeastHarm_0 : decode cX3_findLeastHarm 0 = .ok (.aload_n 0, 1) := by decide +kernel
theorem dX3_findLeastHarm_1 : decode cX3_findLeastHarm 1 = .ok (.aload_n 1, 1) := by decide +kernel
theorem dX3_findLeastHarm_2 : decode cX3_findLeastHarm 2 = .ok (.aload_n 2, 1) := by decide +kernel
theorem dX3_findLeastHarm_3 : decode cX3_findLeastHarm 3 = .ok (.invokevirtual 68, 3) := by decide +kernel
theorem dX3_findLeastHarm_6 : decode cX3_findLeastHarm 6 = .ok (.aload_n 0, 1) := by decide +kernel
theorem dX3_findLeastHarm_7 : decode cX3_findLeastHarm 7 = .ok (.iconst (-1), 1) := by decide +kernel
theorem dX3_findLeastHarm_8 : decode cX3_findLeastHarm 8 = .ok (.putfield 27, 3) := by decide +kernel
theorem dX3_findLeastHarm_11 : decode cX3_findLeastHarm 11 = .ok (.aload_n 0, 1) := by decide +kernel
theorem dX3_findLeastHarm_12 : decode cX3_findLeastHarm 12 = .ok (.aload_n 1, 1) := by decide +kernel
theorem dX3_findLeastHarm_13 : decode cX3_findLeastHarm 13 = .ok (.getfield 51, 3) := by decide +kernel
theorem dX3_findLeastHarm_16 : decode cX3_findLeastHarm 16 = .ok (.putfield 31, 3) := by decide +kernel
theorem dX3_findLeastHarm_19 : decode cX3_findLeastHarm 19 = .ok (.iconst 0, 1) := by decide +kernel
theorem dX3_findLeastHarm_20 : decode cX3_findLeastHarm 20 = .ok (.istore_n 3, 1) := by decide +kernel
theorem dX3_findLeastHarm_21 : decode cX3_findLeastHarm 21 = .ok (.iload_n 3, 1) := by decide +kernel
theorem dX3_findLeastHarm_22 : decode cX3_findLeastHarm 22 = .ok (.aload_n 1, 1) := by decide +kernel
theorem dX3_findLeastHarm_23 : decode cX3_findLeastHarm 23 = .ok (.getfield 72, 3) := by decide +kernel
theorem dX3_findLeastHarm_26 : decode cX3_findLeastHarm 26 = .ok (.if_icmp .ge 16, 3) := by decide +kernel
theorem dX3_findLeastHarm_29 : decode cX3_findLeastHarm 29 = .ok (.aload_n 0, 1) := by decide +kernel
theorem dX3_findLeastHarm_30 : decode cX3_findLeastHarm 30 = .ok (.getfield 18, 3) := by decide +kernel
theorem dX3_findLeastHarm_33 : decode cX3_findLeastHarm 33 = .ok (.iload_n 3, 1) := by decide +kernel
theorem dX3_findLeastHarm_34 : decode cX3_findLeastHarm 34 = .ok (.iload_n 3, 1) := by decide +kernel
theorem dX3_findLeastHarm_35 : decode cX3_findLeastHarm 35 = .ok (.iastore, 1) := by decide +kernel
theorem dX3_findLeastHarm_36 : decode cX3_findLeastHarm 36 = .ok (.iinc 3 1, 3) := by decide +kernel
theorem dX3_findLeastHarm_39 : decode cX3_findLeastHarm 39 = .ok (.goto (-18), 3) := by decide +kernel
theorem dX3_findLeastHarm_42 : decode cX3_findLeastHarm 42 = .ok (.iconst 1, 1) := by decide +kernel
theorem dX3_findLeastHarm_43 : decode cX3_findLeastHarm 43 = .ok (.istore_n 3, 1) := by decide +kernel
theorem dX3_findLeastHarm_44 : decode cX3_findLeastHarm 44 = .ok (.iconst 0, 1) := by decide +kernel
theorem dX3_findLeastHarm_45 : decode cX3_findLeastHarm 45 = .ok (.istore 4, 2) := by decide +kernel
theorem dX3_findLeastHarm_47 : decode cX3_findLeastHarm 47 = .ok (.iload 4, 2) := by decide +kernel
theorem dX3_findLeastHarm_49 : decode cX3_findLeastHarm 49 = .ok (.sipush 720, 3) := by decide +kernel
theorem dX3_findLeastHarm_52 : decode cX3_findLeastHarm 52 = .ok (.if_icmp .ge 80, 3) := by decide +kernel
theorem dX3_findLeastHarm_55 : decode cX3_findLeastHarm 55 = .ok (.iload_n 3, 1) := by decide +kernel
theorem dX3_findLeastHarm_56 : decode cX3_findLeastHarm 56 = .ok (.ifCond .eq 76, 3) := by decide +kernel
theorem dX3_findLeastHarm_59 : decode cX3_findLeastHarm 59 = .ok (.aload_n 0, 1) := by decide +kernel
theorem dX3_findLeastHarm_60 : decode cX3_findLeastHarm 60 = .ok (.aload_n 1, 1) := by decide +kernel
theorem dX3_findLeastHarm_61 : decode cX3_findLeastHarm 61 = .ok (.getfield 72, 3) := by decide +kernel
theorem dX3_findLeastHarm_64 : decode cX3_findLeastHarm 64 = .ok (.invokevirtual 75, 3) := by decide +kernel
theorem dX3_findLeastHarm_67 : decode cX3_findLeastHarm 67 = .ok (.istore 5, 2) := by decide +kernel
theorem dX3_findLeastHarm_69 : decode cX3_findLeastHarm 69 = .ok (.iload 5, 2) := by decide +kernel
theorem dX3_findLeastHarm_71 : decode cX3_findLeastHarm 71 = .ok (.aload_n 1, 1) := by decide +kernel
theorem dX3_findLeastHarm_72 : decode cX3_findLeastHarm 72 = .ok (.getfield 51, 3) := by decide +kernel
theorem dX3_findLeastHarm_75 : decode cX3_findLeastHarm 75 = .ok (.if_icmp .eq 42, 3) := by decide +kernel
theorem dX3_findLeastHarm_78 : decode cX3_findLeastHarm 78 = .ok (.aload_n 0, 1) := by decide +kernel
theorem dX3_findLeastHarm_79 : decode cX3_findLeastHarm 79 = .ok (.aload_n 1, 1) := by decide +kernel
theorem dX3_findLeastHarm_80 : decode cX3_findLeastHarm 80 = .ok (.aload_n 2, 1) := by decide +kernel
theorem dX3_findLeastHarm_81 : decode cX3_findLeastHarm 81 = .ok (.iload 5, 2) := by decide +kernel
theorem dX3_findLeastHarm_83 : decode cX3_findLeastHarm 83 = .ok (.invokevirtual 78, 3) := by decide +kernel
theorem dX3_findLeastHarm_86 : decode cX3_findLeastHarm 86 = .ok (.istore 6, 2) := by decide +kernel
theorem dX3_findLeastHarm_88 : decode cX3_findLeastHarm 88 = .ok (.aload_n 0, 1) := by decide +kernel
theorem dX3_findLeastHarm_89 : decode cX3_findLeastHarm 89 = .ok (.getfield 27, 3) := by decide +kernel
theorem dX3_findLeastHarm_92 : decode cX3_findLeastHarm 92 = .ok (.iconst (-1), 1) := by decide +kernel
theorem dX3_findLeastHarm_93 : decode cX3_findLeastHarm 93 = .ok (.if_icmp .eq 12, 3) := by decide +kernel
theorem dX3_findLeastHarm_96 : decode cX3_findLeastHarm 96 = .ok (.iload 6, 2) := by decide +kernel
theorem dX3_findLeastHarm_98 : decode cX3_findLeastHarm 98 = .ok (.aload_n 0, 1) := by decide +kernel
theorem dX3_findLeastHarm_99 : decode cX3_findLeastHarm 99 = .ok (.getfield 27, 3) := by decide +kernel
theorem dX3_findLeastHarm_102 : decode cX3_findLeastHarm 102 = .ok (.if_icmp .ge 15, 3) := by decide +kernel
theorem dX3_findLeastHarm_105 : decode cX3_findLeastHarm 105 = .ok (.aload_n 0, 1) := by decide +kernel
theorem dX3_findLeastHarm_106 : decode cX3_findLeastHarm 106 = .ok (.iload 6, 2) := by decide +kernel
theorem dX3_findLeastHarm_108 : decode cX3_findLeastHarm 108 = .ok (.putfield 27, 3) := by decide +kernel
theorem dX3_findLeastHarm_111 : decode cX3_findLeastHarm 111 = .ok (.aload_n 0, 1) := by decide +kernel
theorem dX3_findLeastHarm_112 : decode cX3_findLeastHarm 112 = .ok (.iload 5, 2) := by decide +kernel
theorem dX3_findLeastHarm_114 : decode cX3_findLeastHarm 114 = .ok (.putfield 31, 3) := by decide +kernel
theorem dX3_findLeastHarm_117 : decode cX3_findLeastHarm 117 = .ok (.aload_n 0, 1) := by decide +kernel
theorem dX3_findLeastHarm_118 : decode cX3_findLeastHarm 118 = .ok (.aload_n 1, 1) := by decide +kernel
theorem dX3_findLeastHarm_119 : decode cX3_findLeastHarm 119 = .ok (.getfield 72, 3) := by decide +kernel
theorem dX3_findLeastHarm_122 : decode cX3_findLeastHarm 122 = .ok (.invokevirtual 82, 3) := by decide +kernel
theorem dX3_findLeastHarm_125 : decode cX3_findLeastHarm 125 = .ok (.istore_n 3, 1) := by decide +kernel
theorem dX3_findLeastHarm_126 : decode cX3_findLeastHarm 126 = .ok (.iinc 4 1, 3) := by decide +kernel
theorem dX3_findLeastHarm_129 : decode cX3_findLeastHarm 129 = .ok (.goto (-82), 3) := by decide +kernel
theorem dX3_findLeastHarm_132 : decode cX3_findLeastHarm 132 = .ok (.return_, 1) := by decide +kernel
theorem dX3_packedRow_0 : decode cX3_packedRow 0 = .ok (.iconst 0, 1) := by decide +kernel
theorem dX3_packedRow_1 : decode cX3_packedRow 1 = .ok (.istore_n 2, 1) := by decide +kernel
theorem dX3_packedRow_2 : decode cX3_packedRow 2 = .ok (.iconst 0, 1) := by decide +kernel
theorem dX3_packedRow_3 : decode cX3_packedRow 3 = .ok (.istore_n 3, 1) := by decide +kernel
theorem dX3_packedRow_4 : decode cX3_packedRow 4 = .ok (.iload_n 3, 1) := by decide +kernel
theorem dX3_packedRow_5 : decode cX3_packedRow 5 = .ok (.iload_n 1, 1) := by decide +kernel
theorem dX3_packedRow_6 : decode cX3_packedRow 6 = .ok (.if_icmp .ge 20, 3) := by decide +kernel
theorem dX3_packedRow_9 : decode cX3_packedRow 9 = .ok (.iload_n 2, 1) := by decide +kernel
theorem dX3_packedRow_10 : decode cX3_packedRow 10 = .ok (.iconst 3, 1) := by decide +kernel
theorem dX3_packedRow_11 : decode cX3_packedRow 11 = .ok (.ishl, 1) := by decide +kernel
theorem dX3_packedRow_12 : decode cX3_packedRow 12 = .ok (.aload_n 0, 1) := by decide +kernel
theorem dX3_packedRow_13 : decode cX3_packedRow 13 = .ok (.getfield 18, 3) := by decide +kernel
theorem dX3_packedRow_16 : decode cX3_packedRow 16 = .ok (.iload_n 3, 1) := by decide +kernel
theorem dX3_packedRow_17 : decode cX3_packedRow 17 = .ok (.iaload, 1) := by decide +kernel
theorem dX3_packedRow_18 : decode cX3_packedRow 18 = .ok (.ior, 1) := by decide +kernel
theorem dX3_packedRow_19 : decode cX3_packedRow 19 = .ok (.istore_n 2, 1) := by decide +kernel
theorem dX3_packedRow_20 : decode cX3_packedRow 20 = .ok (.iinc 3 1, 3) := by decide +kernel
theorem dX3_packedRow_23 : decode cX3_packedRow 23 = .ok (.goto (-19), 3) := by decide +kernel
theorem dX3_packedRow_26 : decode cX3_packedRow 26 = .ok (.iload_n 2, 1) := by decide +kernel
theorem dX3_packedRow_27 : decode cX3_packedRow 27 = .ok (.ireturn, 1) := by decide +kernel
theorem dX3_nextRow_0 : decode cX3_nextRow 0 = .ok (.iload_n 1, 1) := by decide +kernel
theorem dX3_nextRow_1 : decode cX3_nextRow 1 = .ok (.iconst 2, 1) := by decide +kernel
theorem dX3_nextRow_2 : decode cX3_nextRow 2 = .ok (.isub, 1) := by decide +kernel
theorem dX3_nextRow_3 : decode cX3_nextRow 3 = .ok (.istore_n 2, 1) := by decide +kernel
theorem dX3_nextRow_4 : decode cX3_nextRow 4 = .ok (.iload_n 2, 1) := by decide +kernel
theorem dX3_nextRow_5 : decode cX3_nextRow 5 = .ok (.ifCond .lt 26, 3) := by decide +kernel
theorem dX3_nextRow_8 : decode cX3_nextRow 8 = .ok (.aload_n 0, 1) := by decide +kernel
theorem dX3_nextRow_9 : decode cX3_nextRow 9 = .ok (.getfield 18, 3) := by decide +kernel
theorem dX3_nextRow_12 : decode cX3_nextRow 12 = .ok (.iload_n 2, 1) := by decide +kernel
theorem dX3_nextRow_13 : decode cX3_nextRow 13 = .ok (.iaload, 1) := by decide +kernel
theorem dX3_nextRow_14 : decode cX3_nextRow 14 = .ok (.aload_n 0, 1) := by decide +kernel
theorem dX3_nextRow_15 : decode cX3_nextRow 15 = .ok (.getfield 18, 3) := by decide +kernel
theorem dX3_nextRow_18 : decode cX3_nextRow 18 = .ok (.iload_n 2, 1) := by decide +kernel
theorem dX3_nextRow_19 : decode cX3_nextRow 19 = .ok (.iconst 1, 1) := by decide +kernel
theorem dX3_nextRow_20 : decode cX3_nextRow 20 = .ok (.iadd, 1) := by decide +kernel
theorem dX3_nextRow_21 : decode cX3_nextRow 21 = .ok (.iaload, 1) := by decide +kernel
theorem dX3_nextRow_22 : decode cX3_nextRow 22 = .ok (.if_icmp .le 9, 3) := by decide +kernel
theorem dX3_nextRow_25 : decode cX3_nextRow 25 = .ok (.iinc 2 (-1), 3) := by decide +kernel
theorem dX3_nextRow_28 : decode cX3_nextRow 28 = .ok (.goto (-24), 3) := by decide +kernel
theorem dX3_nextRow_31 : decode cX3_nextRow 31 = .ok (.iload_n 2, 1) := by decide +kernel
theorem dX3_nextRow_32 : decode cX3_nextRow 32 = .ok (.ifCond .ge 5, 3) := by decide +kernel
theorem dX3_nextRow_35 : decode cX3_nextRow 35 = .ok (.iconst 0, 1) := by decide +kernel
theorem dX3_nextRow_36 : decode cX3_nextRow 36 = .ok (.ireturn, 1) := by decide +kernel
theorem dX3_nextRow_37 : decode cX3_nextRow 37 = .ok (.iload_n 1, 1) := by decide +kernel
theorem dX3_nextRow_38 : decode cX3_nextRow 38 = .ok (.iconst 1, 1) := by decide +kernel
theorem dX3_nextRow_39 : decode cX3_nextRow 39 = .ok (.isub, 1) := by decide +kernel
theorem dX3_nextRow_40 : decode cX3_nextRow 40 = .ok (.istore_n 3, 1) := by decide +kernel
theorem dX3_nextRow_41 : decode cX3_nextRow 41 = .ok (.iload_n 3, 1) := by decide +kernel
theorem dX3_nextRow_42 : decode cX3_nextRow 42 = .ok (.iload_n 2, 1) := by decide +kernel
theorem dX3_nextRow_43 : decode cX3_nextRow 43 = .ok (.if_icmp .le 24, 3) := by decide +kernel
theorem dX3_nextRow_46 : decode cX3_nextRow 46 = .ok (.aload_n 0, 1) := by decide +kernel
theorem dX3_nextRow_47 : decode cX3_nextRow 47 = .ok (.getfield 18, 3) := by decide +kernel
theorem dX3_nextRow_50 : decode cX3_nextRow 50 = .ok (.iload_n 3, 1) := by decide +kernel
theorem dX3_nextRow_51 : decode cX3_nextRow 51 = .ok (.iaload, 1) := by decide +kernel
theorem dX3_nextRow_52 : decode cX3_nextRow 52 = .ok (.aload_n 0, 1) := by decide +kernel
theorem dX3_nextRow_53 : decode cX3_nextRow 53 = .ok (.getfield 18, 3) := by decide +kernel
theorem dX3_nextRow_56 : decode cX3_nextRow 56 = .ok (.iload_n 2, 1) := by decide +kernel
theorem dX3_nextRow_57 : decode cX3_nextRow 57 = .ok (.iaload, 1) := by decide +kernel
theorem dX3_nextRow_58 : decode cX3_nextRow 58 = .ok (.if_icmp .ge 9, 3) := by decide +kernel
theorem dX3_nextRow_61 : decode cX3_nextRow 61 = .ok (.iinc 3 (-1), 3) := by decide +kernel
theorem dX3_nextRow_64 : decode cX3_nextRow 64 = .ok (.goto (-23), 3) := by decide +kernel
theorem dX3_nextRow_67 : decode cX3_nextRow 67 = .ok (.aload_n 0, 1) := by decide +kernel
theorem dX3_nextRow_68 : decode cX3_nextRow 68 = .ok (.iload_n 2, 1) := by decide +kernel
theorem dX3_nextRow_69 : decode cX3_nextRow 69 = .ok (.iload_n 3, 1) := by decide +kernel
theorem dX3_nextRow_70 : decode cX3_nextRow 70 = .ok (.invokevirtual 86, 3) := by decide +kernel
theorem dX3_nextRow_73 : decode cX3_nextRow 73 = .ok (.iload_n 2, 1) := by decide +kernel
theorem dX3_nextRow_74 : decode cX3_nextRow 74 = .ok (.iconst 1, 1) := by decide +kernel
theorem dX3_nextRow_75 : decode cX3_nextRow 75 = .ok (.iadd, 1) := by decide +kernel
theorem dX3_nextRow_76 : decode cX3_nextRow 76 = .ok (.istore 4, 2) := by decide +kernel
theorem dX3_nextRow_78 : decode cX3_nextRow 78 = .ok (.iload_n 1, 1) := by decide +kernel
theorem dX3_nextRow_79 : decode cX3_nextRow 79 = .ok (.iconst 1, 1) := by decide +kernel
theorem dX3_nextRow_80 : decode cX3_nextRow 80 = .ok (.isub, 1) := by decide +kernel
theorem dX3_nextRow_81 : decode cX3_nextRow 81 = .ok (.istore 5, 2) := by decide +kernel
theorem dX3_nextRow_83 : decode cX3_nextRow 83 = .ok (.iload 4, 2) := by decide +kernel
theorem dX3_nextRow_85 : decode cX3_nextRow 85 = .ok (.iload 5, 2) := by decide +kernel
theorem dX3_nextRow_87 : decode cX3_nextRow 87 = .ok (.if_icmp .ge 20, 3) := by decide +kernel
theorem dX3_nextRow_90 : decode cX3_nextRow 90 = .ok (.aload_n 0, 1) := by decide +kernel
theorem dX3_nextRow_91 : decode cX3_nextRow 91 = .ok (.iload 4, 2) := by decide +kernel
theorem dX3_nextRow_93 : decode cX3_nextRow 93 = .ok (.iload 5, 2) := by decide +kernel
theorem dX3_nextRow_95 : decode cX3_nextRow 95 = .ok (.invokevirtual 86, 3) := by decide +kernel
theorem dX3_nextRow_98 : decode cX3_nextRow 98 = .ok (.iinc 4 1, 3) := by decide +kernel
theorem dX3_nextRow_101 : decode cX3_nextRow 101 = .ok (.iinc 5 (-1), 3) := by decide +kernel
theorem dX3_nextRow_104 : decode cX3_nextRow 104 = .ok (.goto (-21), 3) := by decide +kernel
theorem dX3_nextRow_107 : decode cX3_nextRow 107 = .ok (.iconst 1, 1) := by decide +kernel
theorem dX3_nextRow_108 : decode cX3_nextRow 108 = .ok (.ireturn, 1) := by decide +kernel
theorem dX3_swap_0 : decode cX3_swap 0 = .ok (.aload_n 0, 1) := by decide +kernel
theorem dX3_swap_1 : decode cX3_swap 1 = .ok (.getfield 18, 3) := by decide +kernel
theorem dX3_swap_4 : decode cX3_swap 4 = .ok (.iload_n 1, 1) := by decide +kernel
theorem dX3_swap_5 : decode cX3_swap 5 = .ok (.iaload, 1) := by decide +kernel
theorem dX3_swap_6 : decode cX3_swap 6 = .ok (.istore_n 3, 1) := by decide +kernel
theorem dX3_swap_7 : decode cX3_swap 7 = .ok (.aload_n 0, 1) := by decide +kernel
theorem dX3_swap_8 : decode cX3_swap 8 = .ok (.getfield 18, 3) := by decide +kernel
theorem dX3_swap_11 : decode cX3_swap 11 = .ok (.iload_n 1, 1) := by decide +kernel
theorem dX3_swap_12 : decode cX3_swap 12 = .ok (.aload_n 0, 1) := by decide +kernel
theorem dX3_swap_13 : decode cX3_swap 13 = .ok (.getfield 18, 3) := by decide +kernel
theorem dX3_swap_16 : decode cX3_swap 16 = .ok (.iload_n 2, 1) := by decide +kernel
theorem dX3_swap_17 : decode cX3_swap 17 = .ok (.iaload, 1) := by decide +kernel
theorem dX3_swap_18 : decode cX3_swap 18 = .ok (.iastore, 1) := by decide +kernel
theorem dX3_swap_19 : decode cX3_swap 19 = .ok (.aload_n 0, 1) := by decide +kernel
theorem dX3_swap_20 : decode cX3_swap 20 = .ok (.getfield 18, 3) := by decide +kernel
theorem dX3_swap_23 : decode cX3_swap 23 = .ok (.iload_n 2, 1) := by decide +kernel
theorem dX3_swap_24 : decode cX3_swap 24 = .ok (.iload_n 3, 1) := by decide +kernel
theorem dX3_swap_25 : decode cX3_swap 25 = .ok (.iastore, 1) := by decide +kernel
theorem dX3_swap_26 : decode cX3_swap 26 = .ok (.return_, 1) := by decide +kernel
theorem dX3_whoStays_0 : decode cX3_whoStays 0 = .ok (.aload_n 1, 1) := by decide +kernel
theorem dX3_whoStays_1 : decode cX3_whoStays 1 = .ok (.getfield 34, 3) := by decide +kernel
theorem dX3_whoStays_4 : decode cX3_whoStays 4 = .ok (.getfield 40, 3) := by decide +kernel
theorem dX3_whoStays_7 : decode cX3_whoStays 7 = .ok (.istore 4, 2) := by decide +kernel
theorem dX3_whoStays_9 : decode cX3_whoStays 9 = .ok (.aload_n 2, 1) := by decide +kernel
theorem dX3_whoStays_10 : decode cX3_whoStays 10 = .ok (.aload_n 1, 1) := by decide +kernel
theorem dX3_whoStays_11 : decode cX3_whoStays 11 = .ok (.aload_n 1, 1) := by decide +kernel
theorem dX3_whoStays_12 : decode cX3_whoStays 12 = .ok (.getfield 51, 3) := by decide +kernel
theorem dX3_whoStays_15 : decode cX3_whoStays 15 = .ok (.invokevirtual 54, 3) := by decide +kernel
theorem dX3_whoStays_18 : decode cX3_whoStays 18 = .ok (.aload_n 2, 1) := by decide +kernel
theorem dX3_whoStays_19 : decode cX3_whoStays 19 = .ok (.getfield 90, 3) := by decide +kernel
theorem dX3_whoStays_22 : decode cX3_whoStays 22 = .ok (.iconst 0, 1) := by decide +kernel
theorem dX3_whoStays_23 : decode cX3_whoStays 23 = .ok (.aload_n 0, 1) := by decide +kernel
theorem dX3_whoStays_24 : decode cX3_whoStays 24 = .ok (.getfield 21, 3) := by decide +kernel
theorem dX3_whoStays_27 : decode cX3_whoStays 27 = .ok (.iconst 0, 1) := by decide +kernel
theorem dX3_whoStays_28 : decode cX3_whoStays 28 = .ok (.iload 4, 2) := by decide +kernel
theorem dX3_whoStays_30 : decode cX3_whoStays 30 = .ok (.invokestatic 93, 3) := by decide +kernel
theorem dX3_whoStays_33 : decode cX3_whoStays 33 = .ok (.aload_n 2, 1) := by decide +kernel
theorem dX3_whoStays_34 : decode cX3_whoStays 34 = .ok (.aload_n 1, 1) := by decide +kernel
theorem dX3_whoStays_35 : decode cX3_whoStays 35 = .ok (.iload_n 3, 1) := by decide +kernel
theorem dX3_whoStays_36 : decode cX3_whoStays 36 = .ok (.invokevirtual 54, 3) := by decide +kernel
theorem dX3_whoStays_39 : decode cX3_whoStays 39 = .ok (.iconst 1, 1) := by decide +kernel
theorem dX3_whoStays_40 : decode cX3_whoStays 40 = .ok (.iload 4, 2) := by decide +kernel
theorem dX3_whoStays_42 : decode cX3_whoStays 42 = .ok (.ishl, 1) := by decide +kernel
theorem dX3_whoStays_43 : decode cX3_whoStays 43 = .ok (.iconst 1, 1) := by decide +kernel
theorem dX3_whoStays_44 : decode cX3_whoStays 44 = .ok (.isub, 1) := by decide +kernel
theorem dX3_whoStays_45 : decode cX3_whoStays 45 = .ok (.istore 5, 2) := by decide +kernel
theorem dX3_whoStays_47 : decode cX3_whoStays 47 = .ok (.aload_n 0, 1) := by decide +kernel
theorem dX3_whoStays_48 : decode cX3_whoStays 48 = .ok (.aload_n 2, 1) := by decide +kernel
theorem dX3_whoStays_49 : decode cX3_whoStays 49 = .ok (.iload 4, 2) := by decide +kernel
theorem dX3_whoStays_51 : decode cX3_whoStays 51 = .ok (.iload 5, 2) := by decide +kernel
theorem dX3_whoStays_53 : decode cX3_whoStays 53 = .ok (.invokevirtual 99, 3) := by decide +kernel
theorem dX3_whoStays_56 : decode cX3_whoStays 56 = .ok (.istore 6, 2) := by decide +kernel
theorem dX3_whoStays_58 : decode cX3_whoStays 58 = .ok (.iload 4, 2) := by decide +kernel
theorem dX3_whoStays_60 : decode cX3_whoStays 60 = .ok (.iconst 1, 1) := by decide +kernel
theorem dX3_whoStays_61 : decode cX3_whoStays 61 = .ok (.isub, 1) := by decide +kernel
theorem dX3_whoStays_62 : decode cX3_whoStays 62 = .ok (.istore 7, 2) := by decide +kernel
theorem dX3_whoStays_64 : decode cX3_whoStays 64 = .ok (.iload 7, 2) := by decide +kernel
theorem dX3_whoStays_66 : decode cX3_whoStays 66 = .ok (.ifCond .lt 38, 3) := by decide +kernel
theorem dX3_whoStays_69 : decode cX3_whoStays 69 = .ok (.iload 5, 2) := by decide +kernel
theorem dX3_whoStays_71 : decode cX3_whoStays 71 = .ok (.iconst 1, 1) := by decide +kernel
theorem dX3_whoStays_72 : decode cX3_whoStays 72 = .ok (.iload 7, 2) := by decide +kernel
theorem dX3_whoStays_74 : decode cX3_whoStays 74 = .ok (.ishl, 1) := by decide +kernel
theorem dX3_whoStays_75 : decode cX3_whoStays 75 = .ok (.iconst (-1), 1) := by decide +kernel
theorem dX3_whoStays_76 : decode cX3_whoStays 76 = .ok (.ixor, 1) := by decide +kernel
theorem dX3_whoStays_77 : decode cX3_whoStays 77 = .ok (.iand, 1) := by decide +kernel
theorem dX3_whoStays_78 : decode cX3_whoStays 78 = .ok (.istore 8, 2) := by decide +kernel
theorem dX3_whoStays_80 : decode cX3_whoStays 80 = .ok (.aload_n 0, 1) := by decide +kernel
theorem dX3_whoStays_81 : decode cX3_whoStays 81 = .ok (.aload_n 2, 1) := by decide +kernel
theorem dX3_whoStays_82 : decode cX3_whoStays 82 = .ok (.iload 4, 2) := by decide +kernel
theorem dX3_whoStays_84 : decode cX3_whoStays 84 = .ok (.iload 8, 2) := by decide +kernel
theorem dX3_whoStays_86 : decode cX3_whoStays 86 = .ok (.invokevirtual 99, 3) := by decide +kernel
theorem dX3_whoStays_89 : decode cX3_whoStays 89 = .ok (.iload 6, 2) := by decide +kernel
theorem dX3_whoStays_91 : decode cX3_whoStays 91 = .ok (.if_icmp .ne 7, 3) := by decide +kernel
theorem dX3_whoStays_94 : decode cX3_whoStays 94 = .ok (.iload 8, 2) := by decide +kernel
theorem dX3_whoStays_96 : decode cX3_whoStays 96 = .ok (.istore 5, 2) := by decide +kernel
theorem dX3_whoStays_98 : decode cX3_whoStays 98 = .ok (.iinc 7 (-1), 3) := by decide +kernel
theorem dX3_whoStays_101 : decode cX3_whoStays 101 = .ok (.goto (-37), 3) := by decide +kernel
theorem dX3_whoStays_104 : decode cX3_whoStays 104 = .ok (.iload 5, 2) := by decide +kernel
theorem dX3_whoStays_106 : decode cX3_whoStays 106 = .ok (.ireturn, 1) := by decide +kernel
theorem dX3_mostInOrder_0 : decode cX3_mostInOrder 0 = .ok (.iconst 0, 1) := by decide +kernel
theorem dX3_mostInOrder_1 : decode cX3_mostInOrder 1 = .ok (.istore 4, 2) := by decide +kernel
theorem dX3_mostInOrder_3 : decode cX3_mostInOrder 3 = .ok (.iconst 0, 1) := by decide +kernel
theorem dX3_mostInOrder_4 : decode cX3_mostInOrder 4 = .ok (.istore 5, 2) := by decide +kernel
theorem dX3_mostInOrder_6 : decode cX3_mostInOrder 6 = .ok (.iload 5, 2) := by decide +kernel
theorem dX3_mostInOrder_8 : decode cX3_mostInOrder 8 = .ok (.iload_n 2, 1) := by decide +kernel
theorem dX3_mostInOrder_9 : decode cX3_mostInOrder 9 = .ok (.if_icmp .ge 124, 3) := by decide +kernel
theorem dX3_mostInOrder_12 : decode cX3_mostInOrder 12 = .ok (.aload_n 0, 1) := by decide +kernel
theorem dX3_mostInOrder_13 : decode cX3_mostInOrder 13 = .ok (.getfield 24, 3) := by decide +kernel
theorem dX3_mostInOrder_16 : decode cX3_mostInOrder 16 = .ok (.iload 5, 2) := by decide +kernel
theorem dX3_mostInOrder_18 : decode cX3_mostInOrder 18 = .ok (.iconst 0, 1) := by decide +kernel
theorem dX3_mostInOrder_19 : decode cX3_mostInOrder 19 = .ok (.iastore, 1) := by decide +kernel
theorem dX3_mostInOrder_20 : decode cX3_mostInOrder 20 = .ok (.iload_n 3, 1) := by decide +kernel
theorem dX3_mostInOrder_21 : decode cX3_mostInOrder 21 = .ok (.aload_n 0, 1) := by decide +kernel
theorem dX3_mostInOrder_22 : decode cX3_mostInOrder 22 = .ok (.getfield 21, 3) := by decide +kernel
theorem dX3_mostInOrder_25 : decode cX3_mostInOrder 25 = .ok (.iload 5, 2) := by decide +kernel
theorem dX3_mostInOrder_27 : decode cX3_mostInOrder 27 = .ok (.iaload, 1) := by decide +kernel
theorem dX3_mostInOrder_28 : decode cX3_mostInOrder 28 = .ok (.ishr, 1) := by decide +kernel
theorem dX3_mostInOrder_29 : decode cX3_mostInOrder 29 = .ok (.iconst 1, 1) := by decide +kernel
theorem dX3_mostInOrder_30 : decode cX3_mostInOrder 30 = .ok (.iand, 1) := by decide +kernel
theorem dX3_mostInOrder_31 : decode cX3_mostInOrder 31 = .ok (.iconst 1, 1) := by decide +kernel
theorem dX3_mostInOrder_32 : decode cX3_mostInOrder 32 = .ok (.if_icmp .ne 95, 3) := by decide +kernel
theorem dX3_mostInOrder_35 : decode cX3_mostInOrder 35 = .ok (.iconst 0, 1) := by decide +kernel
theorem dX3_mostInOrder_36 : decode cX3_mostInOrder 36 = .ok (.istore 6, 2) := by decide +kernel
theorem dX3_mostInOrder_38 : decode cX3_mostInOrder 38 = .ok (.iload 6, 2) := by decide +kernel
theorem dX3_mostInOrder_40 : decode cX3_mostInOrder 40 = .ok (.iload 5, 2) := by decide +kernel
theorem dX3_mostInOrder_42 : decode cX3_mostInOrder 42 = .ok (.if_icmp .ge 60, 3) := by decide +kernel
theorem dX3_mostInOrder_45 : decode cX3_mostInOrder 45 = .ok (.aload_n 1, 1) := by decide +kernel
theorem dX3_mostInOrder_46 : decode cX3_mostInOrder 46 = .ok (.getfield 103, 3) := by decide +kernel
theorem dX3_mostInOrder_49 : decode cX3_mostInOrder 49 = .ok (.aload_n 0, 1) := by decide +kernel
theorem dX3_mostInOrder_50 : decode cX3_mostInOrder 50 = .ok (.getfield 21, 3) := by decide +kernel
theorem dX3_mostInOrder_53 : decode cX3_mostInOrder 53 = .ok (.iload 6, 2) := by decide +kernel
theorem dX3_mostInOrder_55 : decode cX3_mostInOrder 55 = .ok (.iaload, 1) := by decide +kernel
theorem dX3_mostInOrder_56 : decode cX3_mostInOrder 56 = .ok (.iaload, 1) := by decide +kernel
theorem dX3_mostInOrder_57 : decode cX3_mostInOrder 57 = .ok (.aload_n 1, 1) := by decide +kernel
theorem dX3_mostInOrder_58 : decode cX3_mostInOrder 58 = .ok (.getfield 103, 3) := by decide +kernel
theorem dX3_mostInOrder_61 : decode cX3_mostInOrder 61 = .ok (.aload_n 0, 1) := by decide +kernel
theorem dX3_mostInOrder_62 : decode cX3_mostInOrder 62 = .ok (.getfield 21, 3) := by decide +kernel
theorem dX3_mostInOrder_65 : decode cX3_mostInOrder 65 = .ok (.iload 5, 2) := by decide +kernel
theorem dX3_mostInOrder_67 : decode cX3_mostInOrder 67 = .ok (.iaload, 1) := by decide +kernel
theorem dX3_mostInOrder_68 : decode cX3_mostInOrder 68 = .ok (.iaload, 1) := by decide +kernel
theorem dX3_mostInOrder_69 : decode cX3_mostInOrder 69 = .ok (.if_icmp .ge 27, 3) := by decide +kernel
theorem dX3_mostInOrder_72 : decode cX3_mostInOrder 72 = .ok (.aload_n 0, 1) := by decide +kernel
theorem dX3_mostInOrder_73 : decode cX3_mostInOrder 73 = .ok (.getfield 24, 3) := by decide +kernel
theorem dX3_mostInOrder_76 : decode cX3_mostInOrder 76 = .ok (.iload 5, 2) := by decide +kernel
theorem dX3_mostInOrder_78 : decode cX3_mostInOrder 78 = .ok (.aload_n 0, 1) := by decide +kernel
theorem dX3_mostInOrder_79 : decode cX3_mostInOrder 79 = .ok (.getfield 24, 3) := by decide +kernel
theorem dX3_mostInOrder_82 : decode cX3_mostInOrder 82 = .ok (.iload 5, 2) := by decide +kernel
theorem dX3_mostInOrder_84 : decode cX3_mostInOrder 84 = .ok (.iaload, 1) := by decide +kernel
theorem dX3_mostInOrder_85 : decode cX3_mostInOrder 85 = .ok (.aload_n 0, 1) := by decide +kernel
theorem dX3_mostInOrder_86 : decode cX3_mostInOrder 86 = .ok (.getfield 24, 3) := by decide +kernel
theorem dX3_mostInOrder_89 : decode cX3_mostInOrder 89 = .ok (.iload 6, 2) := by decide +kernel
theorem dX3_mostInOrder_91 : decode cX3_mostInOrder 91 = .ok (.iaload, 1) := by decide +kernel
theorem dX3_mostInOrder_92 : decode cX3_mostInOrder 92 = .ok (.invokestatic 62, 3) := by decide +kernel
theorem dX3_mostInOrder_95 : decode cX3_mostInOrder 95 = .ok (.iastore, 1) := by decide +kernel
theorem dX3_mostInOrder_96 : decode cX3_mostInOrder 96 = .ok (.iinc 6 1, 3) := by decide +kernel
theorem dX3_mostInOrder_99 : decode cX3_mostInOrder 99 = .ok (.goto (-61), 3) := by decide +kernel
theorem dX3_mostInOrder_102 : decode cX3_mostInOrder 102 = .ok (.aload_n 0, 1) := by decide +kernel
theorem dX3_mostInOrder_103 : decode cX3_mostInOrder 103 = .ok (.getfield 24, 3) := by decide +kernel
theorem dX3_mostInOrder_106 : decode cX3_mostInOrder 106 = .ok (.iload 5, 2) := by decide +kernel
theorem dX3_mostInOrder_108 : decode cX3_mostInOrder 108 = .ok (.dup2, 1) := by decide +kernel
theorem dX3_mostInOrder_109 : decode cX3_mostInOrder 109 = .ok (.iaload, 1) := by decide +kernel
theorem dX3_mostInOrder_110 : decode cX3_mostInOrder 110 = .ok (.iconst 1, 1) := by decide +kernel
theorem dX3_mostInOrder_111 : decode cX3_mostInOrder 111 = .ok (.iadd, 1) := by decide +kernel
theorem dX3_mostInOrder_112 : decode cX3_mostInOrder 112 = .ok (.iastore, 1) := by decide +kernel
theorem dX3_mostInOrder_113 : decode cX3_mostInOrder 113 = .ok (.iload 4, 2) := by decide +kernel
theorem dX3_mostInOrder_115 : decode cX3_mostInOrder 115 = .ok (.aload_n 0, 1) := by decide +kernel
theorem dX3_mostInOrder_116 : decode cX3_mostInOrder 116 = .ok (.getfield 24, 3) := by decide +kernel
theorem dX3_mostInOrder_119 : decode cX3_mostInOrder 119 = .ok (.iload 5, 2) := by decide +kernel
theorem dX3_mostInOrder_121 : decode cX3_mostInOrder 121 = .ok (.iaload, 1) := by decide +kernel
theorem dX3_mostInOrder_122 : decode cX3_mostInOrder 122 = .ok (.invokestatic 62, 3) := by decide +kernel
theorem dX3_mostInOrder_125 : decode cX3_mostInOrder 125 = .ok (.istore 4, 2) := by decide +kernel
theorem dX3_mostInOrder_127 : decode cX3_mostInOrder 127 = .ok (.iinc 5 1, 3) := by decide +kernel
theorem dX3_mostInOrder_130 : decode cX3_mostInOrder 130 = .ok (.goto (-124), 3) := by decide +kernel
theorem dX3_mostInOrder_133 : decode cX3_mostInOrder 133 = .ok (.iload 4, 2) := by decide +kernel
theorem dX3_mostInOrder_135 : decode cX3_mostInOrder 135 = .ok (.ireturn, 1) := by decide +kernel
theorem dX4_init_0 : decode cX4_init 0 = .ok (.aload_n 0, 1) := by decide +kernel
theorem dX4_init_1 : decode cX4_init 1 = .ok (.invokespecial 3, 3) := by decide +kernel
theorem dX4_init_4 : decode cX4_init 4 = .ok (.aload_n 0, 1) := by decide +kernel
theorem dX4_init_5 : decode cX4_init 5 = .ok (.iconst 0, 1) := by decide +kernel
theorem dX4_init_6 : decode cX4_init 6 = .ok (.putfield 9, 3) := by decide +kernel
theorem dX4_init_9 : decode cX4_init 9 = .ok (.aload_n 0, 1) := by decide +kernel
theorem dX4_init_10 : decode cX4_init 10 = .ok (.iconst 0, 1) := by decide +kernel
theorem dX4_init_11 : decode cX4_init 11 = .ok (.putfield 15, 3) := by decide +kernel
theorem dX4_init_14 : decode cX4_init 14 = .ok (.aload_n 0, 1) := by decide +kernel
theorem dX4_init_15 : decode cX4_init 15 = .ok (.bipush 16, 2) := by decide +kernel
theorem dX4_init_17 : decode cX4_init 17 = .ok (.newarray .int, 2) := by decide +kernel
theorem dX4_init_19 : decode cX4_init 19 = .ok (.putfield 18, 3) := by decide +kernel
theorem dX4_init_22 : decode cX4_init 22 = .ok (.aload_n 0, 1) := by decide +kernel
theorem dX4_init_23 : decode cX4_init 23 = .ok (.bipush 16, 2) := by decide +kernel
theorem dX4_init_25 : decode cX4_init 25 = .ok (.newarray .int, 2) := by decide +kernel
theorem dX4_init_27 : decode cX4_init 27 = .ok (.putfield 22, 3) := by decide +kernel
theorem dX4_init_30 : decode cX4_init 30 = .ok (.aload_n 0, 1) := by decide +kernel
theorem dX4_init_31 : decode cX4_init 31 = .ok (.sipush 400, 3) := by decide +kernel
theorem dX4_init_34 : decode cX4_init 34 = .ok (.newarray .int, 2) := by decide +kernel
theorem dX4_init_36 : decode cX4_init 36 = .ok (.putfield 25, 3) := by decide +kernel
theorem dX4_init_39 : decode cX4_init 39 = .ok (.return_, 1) := by decide +kernel
theorem dX4_clear_0 : decode cX4_clear 0 = .ok (.aload_n 0, 1) := by decide +kernel
theorem dX4_clear_1 : decode cX4_clear 1 = .ok (.iconst 0, 1) := by decide +kernel
theorem dX4_clear_2 : decode cX4_clear 2 = .ok (.putfield 9, 3) := by decide +kernel
theorem dX4_clear_5 : decode cX4_clear 5 = .ok (.aload_n 0, 1) := by decide +kernel
theorem dX4_clear_6 : decode cX4_clear 6 = .ok (.iconst 0, 1) := by decide +kernel
theorem dX4_clear_7 : decode cX4_clear 7 = .ok (.putfield 15, 3) := by decide +kernel
theorem dX4_clear_10 : decode cX4_clear 10 = .ok (.return_, 1) := by decide +kernel
theorem dX4_copyFrom_0 : decode cX4_copyFrom 0 = .ok (.aload_n 0, 1) := by decide +kernel
theorem dX4_copyFrom_1 : decode cX4_copyFrom 1 = .ok (.aload_n 1, 1) := by decide +kernel
theorem dX4_copyFrom_2 : decode cX4_copyFrom 2 = .ok (.getfield 9, 3) := by decide +kernel
theorem dX4_copyFrom_5 : decode cX4_copyFrom 5 = .ok (.putfield 9, 3) := by decide +kernel
theorem dX4_copyFrom_8 : decode cX4_copyFrom 8 = .ok (.aload_n 0, 1) := by decide +kernel
theorem dX4_copyFrom_9 : decode cX4_copyFrom 9 = .ok (.aload_n 1, 1) := by decide +kernel
theorem dX4_copyFrom_10 : decode cX4_copyFrom 10 = .ok (.getfield 15, 3) := by decide +kernel
theorem dX4_copyFrom_13 : decode cX4_copyFrom 13 = .ok (.putfield 15, 3) := by decide +kernel
theorem dX4_copyFrom_16 : decode cX4_copyFrom 16 = .ok (.aload_n 1, 1) := by decide +kernel
theorem dX4_copyFrom_17 : decode cX4_copyFrom 17 = .ok (.getfield 18, 3) := by decide +kernel
theorem dX4_copyFrom_20 : decode cX4_copyFrom 20 = .ok (.iconst 0, 1) := by decide +kernel
theorem dX4_copyFrom_21 : decode cX4_copyFrom 21 = .ok (.aload_n 0, 1) := by decide +kernel
theorem dX4_copyFrom_22 : decode cX4_copyFrom 22 = .ok (.getfield 18, 3) := by decide +kernel
theorem dX4_copyFrom_25 : decode cX4_copyFrom 25 = .ok (.iconst 0, 1) := by decide +kernel
theorem dX4_copyFrom_26 : decode cX4_copyFrom 26 = .ok (.bipush 16, 2) := by decide +kernel
theorem dX4_copyFrom_28 : decode cX4_copyFrom 28 = .ok (.invokestatic 28, 3) := by decide +kernel
theorem dX4_copyFrom_31 : decode cX4_copyFrom 31 = .ok (.aload_n 1, 1) := by decide +kernel
theorem dX4_copyFrom_32 : decode cX4_copyFrom 32 = .ok (.getfield 22, 3) := by decide +kernel
theorem dX4_copyFrom_35 : decode cX4_copyFrom 35 = .ok (.iconst 0, 1) := by decide +kernel
theorem dX4_copyFrom_36 : decode cX4_copyFrom 36 = .ok (.aload_n 0, 1) := by decide +kernel
theorem dX4_copyFrom_37 : decode cX4_copyFrom 37 = .ok (.getfield 22, 3) := by decide +kernel
theorem dX4_copyFrom_40 : decode cX4_copyFrom 40 = .ok (.iconst 0, 1) := by decide +kernel
theorem dX4_copyFrom_41 : decode cX4_copyFrom 41 = .ok (.bipush 16, 2) := by decide +kernel
theorem dX4_copyFrom_43 : decode cX4_copyFrom 43 = .ok (.invokestatic 28, 3) := by decide +kernel
theorem dX4_copyFrom_46 : decode cX4_copyFrom 46 = .ok (.aload_n 1, 1) := by decide +kernel
theorem dX4_copyFrom_47 : decode cX4_copyFrom 47 = .ok (.getfield 25, 3) := by decide +kernel
theorem dX4_copyFrom_50 : decode cX4_copyFrom 50 = .ok (.iconst 0, 1) := by decide +kernel
theorem dX4_copyFrom_51 : decode cX4_copyFrom 51 = .ok (.aload_n 0, 1) := by decide +kernel
theorem dX4_copyFrom_52 : decode cX4_copyFrom 52 = .ok (.getfield 25, 3) := by decide +kernel
theorem dX4_copyFrom_55 : decode cX4_copyFrom 55 = .ok (.iconst 0, 1) := by decide +kernel
theorem dX4_copyFrom_56 : decode cX4_copyFrom 56 = .ok (.aload_n 0, 1) := by decide +kernel
theorem dX4_copyFrom_57 : decode cX4_copyFrom 57 = .ok (.getfield 15, 3) := by decide +kernel
theorem dX4_copyFrom_60 : decode cX4_copyFrom 60 = .ok (.invokestatic 28, 3) := by decide +kernel
theorem dX4_copyFrom_63 : decode cX4_copyFrom 63 = .ok (.return_, 1) := by decide +kernel
theorem dX4_add_0 : decode cX4_add 0 = .ok (.iload_n 1, 1) := by decide +kernel
theorem dX4_add_1 : decode cX4_add 1 = .ok (.iconst (-1), 1) := by decide +kernel
theorem dX4_add_2 : decode cX4_add 2 = .ok (.if_icmp .eq 33, 3) := by decide +kernel
theorem dX4_add_5 : decode cX4_add 5 = .ok (.aload_n 0, 1) := by decide +kernel
theorem dX4_add_6 : decode cX4_add 6 = .ok (.getfield 15, 3) := by decide +kernel
theorem dX4_add_9 : decode cX4_add 9 = .ok (.sipush 400, 3) := by decide +kernel
theorem dX4_add_12 : decode cX4_add 12 = .ok (.if_icmp .ge 23, 3) := by decide +kernel
theorem dX4_add_15 : decode cX4_add 15 = .ok (.aload_n 0, 1) := by decide +kernel
theorem dX4_add_16 : decode cX4_add 16 = .ok (.getfield 25, 3) := by decide +kernel
theorem dX4_add_19 : decode cX4_add 19 = .ok (.aload_n 0, 1) := by decide +kernel
theorem dX4_add_20 : decode cX4_add 20 = .ok (.getfield 15, 3) := by decide +kernel
theorem dX4_add_23 : decode cX4_add 23 = .ok (.iload_n 1, 1) := by decide +kernel
theorem dX4_add_24 : decode cX4_add 24 = .ok (.iastore, 1) := by decide +kernel
theorem dX4_add_25 : decode cX4_add 25 = .ok (.aload_n 0, 1) := by decide +kernel
theorem dX4_add_26 : decode cX4_add 26 = .ok (.dup, 1) := by decide +kernel
theorem dX4_add_27 : decode cX4_add 27 = .ok (.getfield 15, 3) := by decide +kernel
theorem dX4_add_30 : decode cX4_add 30 = .ok (.iconst 1, 1) := by decide +kernel
theorem dX4_add_31 : decode cX4_add 31 = .ok (.iadd, 1) := by decide +kernel
theorem dX4_add_32 : decode cX4_add 32 = .ok (.putfield 15, 3) := by decide +kernel
theorem dX4_add_35 : decode cX4_add 35 = .ok (.return_, 1) := by decide +kernel
theorem dX4_closeLine_0 : decode cX4_closeLine 0 = .ok (.aload_n 0, 1) := by decide +kernel
theorem dX4_closeLine_1 : decode cX4_closeLine 1 = .ok (.getfield 9, 3) := by decide +kernel
theorem dX4_closeLine_4 : decode cX4_closeLine 4 = .ok (.bipush 16, 2) := by decide +kernel
theorem dX4_closeLine_6 : decode cX4_closeLine 6 = .ok (.if_icmp .ge 36, 3) := by decide +kernel
theorem dX4_closeLine_9 : decode cX4_closeLine 9 = .ok (.aload_n 0, 1) := by decide +kernel
theorem dX4_closeLine_10 : decode cX4_closeLine 10 = .ok (.getfield 18, 3) := by decide +kernel
theorem dX4_closeLine_13 : decode cX4_closeLine 13 = .ok (.aload_n 0, 1) := by decide +kernel
theorem dX4_closeLine_14 : decode cX4_closeLine 14 = .ok (.getfield 9, 3) := by decide +kernel
theorem dX4_closeLine_17 : decode cX4_closeLine 17 = .ok (.iload_n 1, 1) := by decide +kernel
theorem dX4_closeLine_18 : decode cX4_closeLine 18 = .ok (.iastore, 1) := by decide +kernel
theorem dX4_closeLine_19 : decode cX4_closeLine 19 = .ok (.aload_n 0, 1) := by decide +kernel
theorem dX4_closeLine_20 : decode cX4_closeLine 20 = .ok (.getfield 22, 3) := by decide +kernel
theorem dX4_closeLine_23 : decode cX4_closeLine 23 = .ok (.aload_n 0, 1) := by decide +kernel
theorem dX4_closeLine_24 : decode cX4_closeLine 24 = .ok (.getfield 9, 3) := by decide +kernel
theorem dX4_closeLine_27 : decode cX4_closeLine 27 = .ok (.aload_n 0, 1) := by decide +kernel
theorem dX4_closeLine_28 : decode cX4_closeLine 28 = .ok (.getfield 15, 3) := by decide +kernel
theorem dX4_closeLine_31 : decode cX4_closeLine 31 = .ok (.iastore, 1) := by decide +kernel
theorem dX4_closeLine_32 : decode cX4_closeLine 32 = .ok (.aload_n 0, 1) := by decide +kernel
theorem dX4_closeLine_33 : decode cX4_closeLine 33 = .ok (.dup, 1) := by decide +kernel
theorem dX4_closeLine_34 : decode cX4_closeLine 34 = .ok (.getfield 9, 3) := by decide +kernel
theorem dX4_closeLine_37 : decode cX4_closeLine 37 = .ok (.iconst 1, 1) := by decide +kernel
theorem dX4_closeLine_38 : decode cX4_closeLine 38 = .ok (.iadd, 1) := by decide +kernel
theorem dX4_closeLine_39 : decode cX4_closeLine 39 = .ok (.putfield 9, 3) := by decide +kernel
theorem dX4_closeLine_42 : decode cX4_closeLine 42 = .ok (.return_, 1) := by decide +kernel
theorem dX5_nameLetter_0 : decode cX5_nameLetter 0 = .ok (.iload_n 0, 1) := by decide +kernel
theorem dX5_nameLetter_1 : decode cX5_nameLetter 1 = .ok (.iconst 5, 1) := by decide +kernel
theorem dX5_nameLetter_2 : decode cX5_nameLetter 2 = .ok (.iconst 5, 1) := by decide +kernel
theorem dX5_nameLetter_3 : decode cX5_nameLetter 3 = .ok (.iload_n 1, 1) := by decide +kernel
theorem dX5_nameLetter_4 : decode cX5_nameLetter 4 = .ok (.isub, 1) := by decide +kernel
theorem dX5_nameLetter_5 : decode cX5_nameLetter 5 = .ok (.imul, 1) := by decide +kernel
theorem dX5_nameLetter_6 : decode cX5_nameLetter 6 = .ok (.ishr, 1) := by decide +kernel
theorem dX5_nameLetter_7 : decode cX5_nameLetter 7 = .ok (.bipush 31, 2) := by decide +kernel
theorem dX5_nameLetter_9 : decode cX5_nameLetter 9 = .ok (.iand, 1) := by decide +kernel
theorem dX5_nameLetter_10 : decode cX5_nameLetter 10 = .ok (.iconst 1, 1) := by decide +kernel
theorem dX5_nameLetter_11 : decode cX5_nameLetter 11 = .ok (.isub, 1) := by decide +kernel
theorem dX5_nameLetter_12 : decode cX5_nameLetter 12 = .ok (.ireturn, 1) := by decide +kernel
theorem dX5_nameLength_0 : decode cX5_nameLength 0 = .ok (.iconst 0, 1) := by decide +kernel
theorem dX5_nameLength_1 : decode cX5_nameLength 1 = .ok (.istore_n 1, 1) := by decide +kernel
theorem dX5_nameLength_2 : decode cX5_nameLength 2 = .ok (.iload_n 1, 1) := by decide +kernel
theorem dX5_nameLength_3 : decode cX5_nameLength 3 = .ok (.bipush 6, 2) := by decide +kernel
theorem dX5_nameLength_5 : decode cX5_nameLength 5 = .ok (.if_icmp .ge 18, 3) := by decide +kernel
theorem dX5_nameLength_8 : decode cX5_nameLength 8 = .ok (.iload_n 0, 1) := by decide +kernel
theorem dX5_nameLength_9 : decode cX5_nameLength 9 = .ok (.iload_n 1, 1) := by decide +kernel
theorem dX5_nameLength_10 : decode cX5_nameLength 10 = .ok (.invokestatic 9, 3) := by decide +kernel
theorem dX5_nameLength_13 : decode cX5_nameLength 13 = .ok (.iconst (-1), 1) := by decide +kernel
theorem dX5_nameLength_14 : decode cX5_nameLength 14 = .ok (.if_icmp .eq 9, 3) := by decide +kernel
theorem dX5_nameLength_17 : decode cX5_nameLength 17 = .ok (.iinc 1 1, 3) := by decide +kernel
theorem dX5_nameLength_20 : decode cX5_nameLength 20 = .ok (.goto (-18), 3) := by decide +kernel
theorem dX5_nameLength_23 : decode cX5_nameLength 23 = .ok (.iload_n 1, 1) := by decide +kernel
theorem dX5_nameLength_24 : decode cX5_nameLength 24 = .ok (.ireturn, 1) := by decide +kernel
theorem dX5_nameGroup_0 : decode cX5_nameGroup 0 = .ok (.iload_n 0, 1) := by decide +kernel
theorem dX5_nameGroup_1 : decode cX5_nameGroup 1 = .ok (.iconst 5, 1) := by decide +kernel
theorem dX5_nameGroup_2 : decode cX5_nameGroup 2 = .ok (.iconst 5, 1) := by decide +kernel
theorem dX5_nameGroup_3 : decode cX5_nameGroup 3 = .ok (.iload_n 1, 1) := by decide +kernel
theorem dX5_nameGroup_4 : decode cX5_nameGroup 4 = .ok (.isub, 1) := by decide +kernel
theorem dX5_nameGroup_5 : decode cX5_nameGroup 5 = .ok (.imul, 1) := by decide +kernel
theorem dX5_nameGroup_6 : decode cX5_nameGroup 6 = .ok (.ishl, 1) := by decide +kernel
theorem dX5_nameGroup_7 : decode cX5_nameGroup 7 = .ok (.ireturn, 1) := by decide +kernel
theorem dX5_orderLetter_0 : decode cX5_orderLetter 0 = .ok (.iload_n 0, 1) := by decide +kernel
theorem dX5_orderLetter_1 : decode cX5_orderLetter 1 = .ok (.iconst 3, 1) := by decide +kernel
theorem dX5_orderLetter_2 : decode cX5_orderLetter 2 = .ok (.iload_n 1, 1) := by decide +kernel
theorem dX5_orderLetter_3 : decode cX5_orderLetter 3 = .ok (.iconst 1, 1) := by decide +kernel
theorem dX5_orderLetter_4 : decode cX5_orderLetter 4 = .ok (.isub, 1) := by decide +kernel
theorem dX5_orderLetter_5 : decode cX5_orderLetter 5 = .ok (.iload_n 2, 1) := by decide +kernel
theorem dX5_orderLetter_6 : decode cX5_orderLetter 6 = .ok (.isub, 1) := by decide +kernel
theorem dX5_orderLetter_7 : decode cX5_orderLetter 7 = .ok (.imul, 1) := by decide +kernel
theorem dX5_orderLetter_8 : decode cX5_orderLetter 8 = .ok (.ishr, 1) := by decide +kernel
theorem dX5_orderLetter_9 : decode cX5_orderLetter 9 = .ok (.bipush 7, 2) := by decide +kernel
theorem dX5_orderLetter_11 : decode cX5_orderLetter 11 = .ok (.iand, 1) := by decide +kernel
theorem dX5_orderLetter_12 : decode cX5_orderLetter 12 = .ok (.ireturn, 1) := by decide +kernel
theorem dX5_orderPlace_0 : decode cX5_orderPlace 0 = .ok (.iconst 0, 1) := by decide +kernel
theorem dX5_orderPlace_1 : decode cX5_orderPlace 1 = .ok (.istore_n 3, 1) := by decide +kernel
theorem dX5_orderPlace_2 : decode cX5_orderPlace 2 = .ok (.iload_n 3, 1) := by decide +kernel
theorem dX5_orderPlace_3 : decode cX5_orderPlace 3 = .ok (.iload_n 1, 1) := by decide +kernel
theorem dX5_orderPlace_4 : decode cX5_orderPlace 4 = .ok (.if_icmp .ge 27, 3) := by decide +kernel
theorem dX5_orderPlace_7 : decode cX5_orderPlace 7 = .ok (.iload_n 0, 1) := by decide +kernel
theorem dX5_orderPlace_8 : decode cX5_orderPlace 8 = .ok (.iconst 3, 1) := by decide +kernel
theorem dX5_orderPlace_9 : decode cX5_orderPlace 9 = .ok (.iload_n 1, 1) := by decide +kernel
theorem dX5_orderPlace_10 : decode cX5_orderPlace 10 = .ok (.iconst 1, 1) := by decide +kernel
theorem dX5_orderPlace_11 : decode cX5_orderPlace 11 = .ok (.isub, 1) := by decide +kernel
theorem dX5_orderPlace_12 : decode cX5_orderPlace 12 = .ok (.iload_n 3, 1) := by decide +kernel
theorem dX5_orderPlace_13 : decode cX5_orderPlace 13 = .ok (.isub, 1) := by decide +kernel
theorem dX5_orderPlace_14 : decode cX5_orderPlace 14 = .ok (.imul, 1) := by decide +kernel
theorem dX5_orderPlace_15 : decode cX5_orderPlace 15 = .ok (.ishr, 1) := by decide +kernel
theorem dX5_orderPlace_16 : decode cX5_orderPlace 16 = .ok (.bipush 7, 2) := by decide +kernel
theorem dX5_orderPlace_18 : decode cX5_orderPlace 18 = .ok (.iand, 1) := by decide +kernel
theorem dX5_orderPlace_19 : decode cX5_orderPlace 19 = .ok (.iload_n 2, 1) := by decide +kernel
theorem dX5_orderPlace_20 : decode cX5_orderPlace 20 = .ok (.if_icmp .ne 5, 3) := by decide +kernel
theorem dX5_orderPlace_23 : decode cX5_orderPlace 23 = .ok (.iload_n 3, 1) := by decide +kernel
theorem dX5_orderPlace_24 : decode cX5_orderPlace 24 = .ok (.ireturn, 1) := by decide +kernel
theorem dX5_orderPlace_25 : decode cX5_orderPlace 25 = .ok (.iinc 3 1, 3) := by decide +kernel
theorem dX5_orderPlace_28 : decode cX5_orderPlace 28 = .ok (.goto (-26), 3) := by decide +kernel
theorem dX5_orderPlace_31 : decode cX5_orderPlace 31 = .ok (.iload_n 1, 1) := by decide +kernel
theorem dX5_orderPlace_32 : decode cX5_orderPlace 32 = .ok (.ireturn, 1) := by decide +kernel
theorem dX5_plainOrder_0 : decode cX5_plainOrder 0 = .ok (.iconst 0, 1) := by decide +kernel
theorem dX5_plainOrder_1 : decode cX5_plainOrder 1 = .ok (.istore_n 1, 1) := by decide +kernel
theorem dX5_plainOrder_2 : decode cX5_plainOrder 2 = .ok (.iconst 0, 1) := by decide +kernel
theorem dX5_plainOrder_3 : decode cX5_plainOrder 3 = .ok (.istore_n 2, 1) := by decide +kernel
theorem dX5_plainOrder_4 : decode cX5_plainOrder 4 = .ok (.iload_n 2, 1) := by decide +kernel
theorem dX5_plainOrder_5 : decode cX5_plainOrder 5 = .ok (.iload_n 0, 1) := by decide +kernel
theorem dX5_plainOrder_6 : decode cX5_plainOrder 6 = .ok (.if_icmp .ge 15, 3) := by decide +kernel
theorem dX5_plainOrder_9 : decode cX5_plainOrder 9 = .ok (.iload_n 1, 1) := by decide +kernel
theorem dX5_plainOrder_10 : decode cX5_plainOrder 10 = .ok (.iconst 3, 1) := by decide +kernel
theorem dX5_plainOrder_11 : decode cX5_plainOrder 11 = .ok (.ishl, 1) := by decide +kernel
theorem dX5_plainOrder_12 : decode cX5_plainOrder 12 = .ok (.iload_n 2, 1) := by decide +kernel
theorem dX5_plainOrder_13 : decode cX5_plainOrder 13 = .ok (.ior, 1) := by decide +kernel
theorem dX5_plainOrder_14 : decode cX5_plainOrder 14 = .ok (.istore_n 1, 1) := by decide +kernel
theorem dX5_plainOrder_15 : decode cX5_plainOrder 15 = .ok (.iinc 2 1, 3) := by decide +kernel
theorem dX5_plainOrder_18 : decode cX5_plainOrder 18 = .ok (.goto (-14), 3) := by decide +kernel
theorem dX5_plainOrder_21 : decode cX5_plainOrder 21 = .ok (.iload_n 1, 1) := by decide +kernel
theorem dX5_plainOrder_22 : decode cX5_plainOrder 22 = .ok (.ireturn, 1) := by decide +kernel
theorem dX6_init_0 : decode cX6_init 0 = .ok (.aload_n 0, 1) := by decide +kernel
theorem dX6_init_1 : decode cX6_init 1 = .ok (.invokespecial 3, 3) := by decide +kernel
theorem dX6_init_4 : decode cX6_init 4 = .ok (.aload_n 0, 1) := by decide +kernel
theorem dX6_init_5 : decode cX6_init 5 = .ok (.iconst 0, 1) := by decide +kernel
theorem dX6_init_6 : decode cX6_init 6 = .ok (.putfield 9, 3) := by decide +kernel
theorem dX6_init_9 : decode cX6_init 9 = .ok (.aload_n 0, 1) := by decide +kernel
theorem dX6_init_10 : decode cX6_init 10 = .ok (.bipush 20, 2) := by decide +kernel
theorem dX6_init_12 : decode cX6_init 12 = .ok (.newarray .int, 2) := by decide +kernel
theorem dX6_init_14 : decode cX6_init 14 = .ok (.putfield 15, 3) := by decide +kernel
theorem dX6_init_17 : decode cX6_init 17 = .ok (.aload_n 0, 1) := by decide +kernel
theorem dX6_init_18 : decode cX6_init 18 = .ok (.bipush 20, 2) := by decide +kernel
theorem dX6_init_20 : decode cX6_init 20 = .ok (.newarray .int, 2) := by decide +kernel
theorem dX6_init_22 : decode cX6_init 22 = .ok (.putfield 19, 3) := by decide +kernel
theorem dX6_init_25 : decode cX6_init 25 = .ok (.aload_n 0, 1) := by decide +kernel
theorem dX6_init_26 : decode cX6_init 26 = .ok (.bipush 20, 2) := by decide +kernel
theorem dX6_init_28 : decode cX6_init 28 = .ok (.newarray .int, 2) := by decide +kernel
theorem dX6_init_30 : decode cX6_init 30 = .ok (.putfield 22, 3) := by decide +kernel
theorem dX6_init_33 : decode cX6_init 33 = .ok (.aload_n 0, 1) := by decide +kernel
theorem dX6_init_34 : decode cX6_init 34 = .ok (.bipush 20, 2) := by decide +kernel
theorem dX6_init_36 : decode cX6_init 36 = .ok (.newarray .int, 2) := by decide +kernel
theorem dX6_init_38 : decode cX6_init 38 = .ok (.putfield 25, 3) := by decide +kernel
theorem dX6_init_41 : decode cX6_init 41 = .ok (.return_, 1) := by decide +kernel
theorem dX6_has_0 : decode cX6_has 0 = .ok (.iload_n 1, 1) := by decide +kernel
theorem dX6_has_1 : decode cX6_has 1 = .ok (.ifCond .lt 15, 3) := by decide +kernel
theorem dX6_has_4 : decode cX6_has 4 = .ok (.iload_n 1, 1) := by decide +kernel
theorem dX6_has_5 : decode cX6_has 5 = .ok (.aload_n 0, 1) := by decide +kernel
theorem dX6_has_6 : decode cX6_has 6 = .ok (.getfield 9, 3) := by decide +kernel
theorem dX6_has_9 : decode cX6_has 9 = .ok (.if_icmp .ge 7, 3) := by decide +kernel
theorem dX6_has_12 : decode cX6_has 12 = .ok (.iconst 1, 1) := by decide +kernel
theorem dX6_has_13 : decode cX6_has 13 = .ok (.goto 4, 3) := by decide +kernel
theorem dX6_has_16 : decode cX6_has 16 = .ok (.iconst 0, 1) := by decide +kernel
theorem dX6_has_17 : decode cX6_has 17 = .ok (.ireturn, 1) := by decide +kernel
theorem dX6_add_0 : decode cX6_add 0 = .ok (.aload_n 0, 1) := by decide +kernel
theorem dX6_add_1 : decode cX6_add 1 = .ok (.getfield 9, 3) := by decide +kernel
theorem dX6_add_4 : decode cX6_add 4 = .ok (.bipush 20, 2) := by decide +kernel
theorem dX6_add_6 : decode cX6_add 6 = .ok (.if_icmp .lt 5, 3) := by decide +kernel
theorem dX6_add_9 : decode cX6_add 9 = .ok (.iconst (-1), 1) := by decide +kernel
theorem dX6_add_10 : decode cX6_add 10 = .ok (.ireturn, 1) := by decide +kernel
theorem dX6_add_11 : decode cX6_add 11 = .ok (.aload_n 0, 1) := by decide +kernel
theorem dX6_add_12 : decode cX6_add 12 = .ok (.getfield 15, 3) := by decide +kernel
theorem dX6_add_15 : decode cX6_add 15 = .ok (.aload_n 0, 1) := by decide +kernel
theorem dX6_add_16 : decode cX6_add 16 = .ok (.getfield 9, 3) := by decide +kernel
theorem dX6_add_19 : decode cX6_add 19 = .ok (.iload_n 1, 1) := by decide +kernel
theorem dX6_add_20 : decode cX6_add 20 = .ok (.iastore, 1) := by decide +kernel
theorem dX6_add_21 : decode cX6_add 21 = .ok (.aload_n 0, 1) := by decide +kernel
theorem dX6_add_22 : decode cX6_add 22 = .ok (.getfield 19, 3) := by decide +kernel
theorem dX6_add_25 : decode cX6_add 25 = .ok (.aload_n 0, 1) := by decide +kernel
theorem dX6_add_26 : decode cX6_add 26 = .ok (.getfield 9, 3) := by decide +kernel
theorem dX6_add_29 : decode cX6_add 29 = .ok (.iload_n 2, 1) := by decide +kernel
theorem dX6_add_30 : decode cX6_add 30 = .ok (.iastore, 1) := by decide +kernel
theorem dX6_add_31 : decode cX6_add 31 = .ok (.aload_n 0, 1) := by decide +kernel
theorem dX6_add_32 : decode cX6_add 32 = .ok (.getfield 22, 3) := by decide +kernel
theorem dX6_add_35 : decode cX6_add 35 = .ok (.aload_n 0, 1) := by decide +kernel
theorem dX6_add_36 : decode cX6_add 36 = .ok (.getfield 9, 3) := by decide +kernel
theorem dX6_add_39 : decode cX6_add 39 = .ok (.iload_n 3, 1) := by decide +kernel
theorem dX6_add_40 : decode cX6_add 40 = .ok (.iastore, 1) := by decide +kernel
theorem dX6_add_41 : decode cX6_add 41 = .ok (.aload_n 0, 1) := by decide +kernel
theorem dX6_add_42 : decode cX6_add 42 = .ok (.getfield 25, 3) := by decide +kernel
theorem dX6_add_45 : decode cX6_add 45 = .ok (.aload_n 0, 1) := by decide +kernel
theorem dX6_add_46 : decode cX6_add 46 = .ok (.getfield 9, 3) := by decide +kernel
theorem dX6_add_49 : decode cX6_add 49 = .ok (.iload 4, 2) := by decide +kernel
theorem dX6_add_51 : decode cX6_add 51 = .ok (.iastore, 1) := by decide +kernel
theorem dX6_add_52 : decode cX6_add 52 = .ok (.aload_n 0, 1) := by decide +kernel
theorem dX6_add_53 : decode cX6_add 53 = .ok (.dup, 1) := by decide +kernel
theorem dX6_add_54 : decode cX6_add 54 = .ok (.getfield 9, 3) := by decide +kernel
theorem dX6_add_57 : decode cX6_add 57 = .ok (.iconst 1, 1) := by decide +kernel
theorem dX6_add_58 : decode cX6_add 58 = .ok (.iadd, 1) := by decide +kernel
theorem dX6_add_59 : decode cX6_add 59 = .ok (.putfield 9, 3) := by decide +kernel
theorem dX6_add_62 : decode cX6_add 62 = .ok (.aload_n 0, 1) := by decide +kernel
theorem dX6_add_63 : decode cX6_add 63 = .ok (.getfield 9, 3) := by decide +kernel
theorem dX6_add_66 : decode cX6_add 66 = .ok (.iconst 1, 1) := by decide +kernel
theorem dX6_add_67 : decode cX6_add 67 = .ok (.isub, 1) := by decide +kernel
theorem dX6_add_68 : decode cX6_add 68 = .ok (.ireturn, 1) := by decide +kernel
theorem dX6_copyFrom_0 : decode cX6_copyFrom 0 = .ok (.aload_n 0, 1) := by decide +kernel
theorem dX6_copyFrom_1 : decode cX6_copyFrom 1 = .ok (.aload_n 1, 1) := by decide +kernel
theorem dX6_copyFrom_2 : decode cX6_copyFrom 2 = .ok (.getfield 9, 3) := by decide +kernel
theorem dX6_copyFrom_5 : decode cX6_copyFrom 5 = .ok (.putfield 9, 3) := by decide +kernel
theorem dX6_copyFrom_8 : decode cX6_copyFrom 8 = .ok (.aload_n 1, 1) := by decide +kernel
theorem dX6_copyFrom_9 : decode cX6_copyFrom 9 = .ok (.getfield 15, 3) := by decide +kernel
theorem dX6_copyFrom_12 : decode cX6_copyFrom 12 = .ok (.iconst 0, 1) := by decide +kernel
theorem dX6_copyFrom_13 : decode cX6_copyFrom 13 = .ok (.aload_n 0, 1) := by decide +kernel
theorem dX6_copyFrom_14 : decode cX6_copyFrom 14 = .ok (.getfield 15, 3) := by decide +kernel
theorem dX6_copyFrom_17 : decode cX6_copyFrom 17 = .ok (.iconst 0, 1) := by decide +kernel
theorem dX6_copyFrom_18 : decode cX6_copyFrom 18 = .ok (.bipush 20, 2) := by decide +kernel
theorem dX6_copyFrom_20 : decode cX6_copyFrom 20 = .ok (.invokestatic 28, 3) := by decide +kernel
theorem dX6_copyFrom_23 : decode cX6_copyFrom 23 = .ok (.aload_n 1, 1) := by decide +kernel
theorem dX6_copyFrom_24 : decode cX6_copyFrom 24 = .ok (.getfield 19, 3) := by decide +kernel
theorem dX6_copyFrom_27 : decode cX6_copyFrom 27 = .ok (.iconst 0, 1) := by decide +kernel
theorem dX6_copyFrom_28 : decode cX6_copyFrom 28 = .ok (.aload_n 0, 1) := by decide +kernel
theorem dX6_copyFrom_29 : decode cX6_copyFrom 29 = .ok (.getfield 19, 3) := by decide +kernel
theorem dX6_copyFrom_32 : decode cX6_copyFrom 32 = .ok (.iconst 0, 1) := by decide +kernel
theorem dX6_copyFrom_33 : decode cX6_copyFrom 33 = .ok (.bipush 20, 2) := by decide +kernel
theorem dX6_copyFrom_35 : decode cX6_copyFrom 35 = .ok (.invokestatic 28, 3) := by decide +kernel
theorem dX6_copyFrom_38 : decode cX6_copyFrom 38 = .ok (.aload_n 1, 1) := by decide +kernel
theorem dX6_copyFrom_39 : decode cX6_copyFrom 39 = .ok (.getfield 22, 3) := by decide +kernel
theorem dX6_copyFrom_42 : decode cX6_copyFrom 42 = .ok (.iconst 0, 1) := by decide +kernel
theorem dX6_copyFrom_43 : decode cX6_copyFrom 43 = .ok (.aload_n 0, 1) := by decide +kernel
theorem dX6_copyFrom_44 : decode cX6_copyFrom 44 = .ok (.getfield 22, 3) := by decide +kernel
theorem dX6_copyFrom_47 : decode cX6_copyFrom 47 = .ok (.iconst 0, 1) := by decide +kernel
theorem dX6_copyFrom_48 : decode cX6_copyFrom 48 = .ok (.bipush 20, 2) := by decide +kernel
theorem dX6_copyFrom_50 : decode cX6_copyFrom 50 = .ok (.invokestatic 28, 3) := by decide +kernel
theorem dX6_copyFrom_53 : decode cX6_copyFrom 53 = .ok (.aload_n 1, 1) := by decide +kernel
theorem dX6_copyFrom_54 : decode cX6_copyFrom 54 = .ok (.getfield 25, 3) := by decide +kernel
theorem dX6_copyFrom_57 : decode cX6_copyFrom 57 = .ok (.iconst 0, 1) := by decide +kernel
theorem dX6_copyFrom_58 : decode cX6_copyFrom 58 = .ok (.aload_n 0, 1) := by decide +kernel
theorem dX6_copyFrom_59 : decode cX6_copyFrom 59 = .ok (.getfield 25, 3) := by decide +kernel
theorem dX6_copyFrom_62 : decode cX6_copyFrom 62 = .ok (.iconst 0, 1) := by decide +kernel
theorem dX6_copyFrom_63 : decode cX6_copyFrom 63 = .ok (.bipush 20, 2) := by decide +kernel
theorem dX6_copyFrom_65 : decode cX6_copyFrom 65 = .ok (.invokestatic 28, 3) := by decide +kernel
theorem dX6_copyFrom_68 : decode cX6_copyFrom 68 = .ok (.return_, 1) := by decide +kernel
theorem dX7_init_0 : decode cX7_init 0 = .ok (.aload_n 0, 1) := by decide +kernel
theorem dX7_init_1 : decode cX7_init 1 = .ok (.invokespecial 3, 3) := by decide +kernel
theorem dX7_init_4 : decode cX7_init 4 = .ok (.aload_n 0, 1) := by decide +kernel
theorem dX7_init_5 : decode cX7_init 5 = .ok (.bipush 26, 2) := by decide +kernel
theorem dX7_init_7 : decode cX7_init 7 = .ok (.newarray .int, 2) := by decide +kernel
theorem dX7_init_9 : decode cX7_init 9 = .ok (.putfield 9, 3) := by decide +kernel
theorem dX7_init_12 : decode cX7_init 12 = .ok (.aload_n 0, 1) := by decide +kernel
theorem dX7_init_13 : decode cX7_init 13 = .ok (.bipush 20, 2) := by decide +kernel
theorem dX7_init_15 : decode cX7_init 15 = .ok (.newarray .int, 2) := by decide +kernel
theorem dX7_init_17 : decode cX7_init 17 = .ok (.putfield 15, 3) := by decide +kernel
theorem dX7_init_20 : decode cX7_init 20 = .ok (.aload_n 0, 1) := by decide +kernel
theorem dX7_init_21 : decode cX7_init 21 = .ok (.bipush 20, 2) := by decide +kernel
theorem dX7_init_23 : decode cX7_init 23 = .ok (.newarray .int, 2) := by decide +kernel
theorem dX7_init_25 : decode cX7_init 25 = .ok (.putfield 18, 3) := by decide +kernel
theorem dX7_init_28 : decode cX7_init 28 = .ok (.aload_n 0, 1) := by decide +kernel
theorem dX7_init_29 : decode cX7_init 29 = .ok (.bipush 20, 2) := by decide +kernel
theorem dX7_init_31 : decode cX7_init 31 = .ok (.newarray .int, 2) := by decide +kernel
theorem dX7_init_33 : decode cX7_init 33 = .ok (.putfield 21, 3) := by decide +kernel
theorem dX7_init_36 : decode cX7_init 36 = .ok (.aload_n 0, 1) := by decide +kernel
theorem dX7_init_37 : decode cX7_init 37 = .ok (.bipush 20, 2) := by decide +kernel
theorem dX7_init_39 : decode cX7_init 39 = .ok (.newarray .int, 2) := by decide +kernel
theorem dX7_init_41 : decode cX7_init 41 = .ok (.putfield 24, 3) := by decide +kernel
theorem dX7_init_44 : decode cX7_init 44 = .ok (.return_, 1) := by decide +kernel
theorem dX7_payPlaces_0 : decode cX7_payPlaces 0 = .ok (.aload_n 1, 1) := by decide +kernel
theorem dX7_payPlaces_1 : decode cX7_payPlaces 1 = .ok (.getfield 27, 3) := by decide +kernel
theorem dX7_payPlaces_4 : decode cX7_payPlaces 4 = .ok (.getfield 33, 3) := by decide +kernel
theorem dX7_payPlaces_7 : decode cX7_payPlaces 7 = .ok (.istore_n 2, 1) := by decide +kernel
theorem dX7_payPlaces_8 : decode cX7_payPlaces 8 = .ok (.iconst 0, 1) := by decide +kernel
theorem dX7_payPlaces_9 : decode cX7_payPlaces 9 = .ok (.istore_n 3, 1) := by decide +kernel
theorem dX7_payPlaces_10 : decode cX7_payPlaces 10 = .ok (.iload_n 3, 1) := by decide +kernel
theorem dX7_payPlaces_11 : decode cX7_payPlaces 11 = .ok (.iload_n 2, 1) := by decide +kernel
theorem dX7_payPlaces_12 : decode cX7_payPlaces 12 = .ok (.if_icmp .ge 16, 3) := by decide +kernel
theorem dX7_payPlaces_15 : decode cX7_payPlaces 15 = .ok (.aload_n 0, 1) := by decide +kernel
theorem dX7_payPlaces_16 : decode cX7_payPlaces 16 = .ok (.getfield 24, 3) := by decide +kernel
theorem dX7_payPlaces_19 : decode cX7_payPlaces 19 = .ok (.iload_n 3, 1) := by decide +kernel
theorem dX7_payPlaces_20 : decode cX7_payPlaces 20 = .ok (.iconst 0, 1) := by decide +kernel
theorem dX7_payPlaces_21 : decode cX7_payPlaces 21 = .ok (.iastore, 1) := by decide +kernel
theorem dX7_payPlaces_22 : decode cX7_payPlaces 22 = .ok (.iinc 3 1, 3) := by decide +kernel
theorem dX7_payPlaces_25 : decode cX7_payPlaces 25 = .ok (.goto (-15), 3) := by decide +kernel
theorem dX7_payPlaces_28 : decode cX7_payPlaces 28 = .ok (.iconst 0, 1) := by decide +kernel
theorem dX7_payPlaces_29 : decode cX7_payPlaces 29 = .ok (.istore_n 3, 1) := by decide +kernel
theorem dX7_payPlaces_30 : decode cX7_payPlaces 30 = .ok (.iload_n 3, 1) := by decide +kernel
theorem dX7_payPlaces_31 : decode cX7_payPlaces 31 = .ok (.iconst 4, 1) := by decide +kernel
theorem dX7_payPlaces_32 : decode cX7_payPlaces 32 = .ok (.iadd, 1) := by decide +kernel
theorem dX7_payPlaces_33 : decode cX7_payPlaces 33 = .ok (.aload_n 1, 1) := by decide +kernel
theorem dX7_payPlaces_34 : decode cX7_payPlaces 34 = .ok (.getfield 39, 3) := by decide +kernel
theorem dX7_payPlaces_37 : decode cX7_payPlaces 37 = .ok (.arraylength, 1) := by decide +kernel
theorem dX7_payPlaces_38 : decode cX7_payPlaces 38 = .ok (.if_icmp .gt 100, 3) := by decide +kernel
theorem dX7_payPlaces_41 : decode cX7_payPlaces 41 = .ok (.aload_n 1, 1) := by decide +kernel
theorem dX7_payPlaces_42 : decode cX7_payPlaces 42 = .ok (.getfield 39, 3) := by decide +kernel
theorem dX7_payPlaces_45 : decode cX7_payPlaces 45 = .ok (.iload_n 3, 1) := by decide +kernel
theorem dX7_payPlaces_46 : decode cX7_payPlaces 46 = .ok (.iaload, 1) := by decide +kernel
theorem dX7_payPlaces_47 : decode cX7_payPlaces 47 = .ok (.iconst 1, 1) := by decide +kernel
theorem dX7_payPlaces_48 : decode cX7_payPlaces 48 = .ok (.if_icmp .ne 7, 3) := by decide +kernel
theorem dX7_payPlaces_51 : decode cX7_payPlaces 51 = .ok (.iconst 1, 1) := by decide +kernel
theorem dX7_payPlaces_52 : decode cX7_payPlaces 52 = .ok (.goto 4, 3) := by decide +kernel
theorem dX7_payPlaces_55 : decode cX7_payPlaces 55 = .ok (.iconst 0, 1) := by decide +kernel
theorem dX7_payPlaces_56 : decode cX7_payPlaces 56 = .ok (.istore 4, 2) := by decide +kernel
theorem dX7_payPlaces_58 : decode cX7_payPlaces 58 = .ok (.iconst 0, 1) := by decide +kernel
theorem dX7_payPlaces_59 : decode cX7_payPlaces 59 = .ok (.istore 5, 2) := by decide +kernel
theorem dX7_payPlaces_61 : decode cX7_payPlaces 61 = .ok (.iload 5, 2) := by decide +kernel
theorem dX7_payPlaces_63 : decode cX7_payPlaces 63 = .ok (.iload_n 2, 1) := by decide +kernel
theorem dX7_payPlaces_64 : decode cX7_payPlaces 64 = .ok (.if_icmp .ge 68, 3) := by decide +kernel
theorem dX7_payPlaces_67 : decode cX7_payPlaces 67 = .ok (.iload 5, 2) := by decide +kernel
theorem dX7_payPlaces_69 : decode cX7_payPlaces 69 = .ok (.aload_n 1, 1) := by decide +kernel
theorem dX7_payPlaces_70 : decode cX7_payPlaces 70 = .ok (.getfield 39, 3) := by decide +kernel
theorem dX7_payPlaces_73 : decode cX7_payPlaces 73 = .ok (.iload_n 3, 1) := by decide +kernel
theorem dX7_payPlaces_74 : decode cX7_payPlaces 74 = .ok (.iconst 3, 1) := by decide +kernel
theorem dX7_payPlaces_75 : decode cX7_payPlaces 75 = .ok (.iadd, 1) := by decide +kernel
theorem dX7_payPlaces_76 : decode cX7_payPlaces 76 = .ok (.iaload, 1) := by decide +kernel
theorem dX7_payPlaces_77 : decode cX7_payPlaces 77 = .ok (.if_icmp .ge 55, 3) := by decide +kernel
theorem dX7_payPlaces_80 : decode cX7_payPlaces 80 = .ok (.aload_n 0, 1) := by decide +kernel
theorem dX7_payPlaces_81 : decode cX7_payPlaces 81 = .ok (.getfield 24, 3) := by decide +kernel
theorem dX7_payPlaces_84 : decode cX7_payPlaces 84 = .ok (.iload 4, 2) := by decide +kernel
theorem dX7_payPlaces_86 : decode cX7_payPlaces 86 = .ok (.ifCond .eq 12, 3) := by decide +kernel
theorem dX7_payPlaces_89 : decode cX7_payPlaces 89 = .ok (.iload_n 2, 1) := by decide +kernel
theorem dX7_payPlaces_90 : decode cX7_payPlaces 90 = .ok (.iconst 1, 1) := by decide +kernel
theorem dX7_payPlaces_91 : decode cX7_payPlaces 91 = .ok (.isub, 1) := by decide +kernel
theorem dX7_payPlaces_92 : decode cX7_payPlaces 92 = .ok (.iload 5, 2) := by decide +kernel
theorem dX7_payPlaces_94 : decode cX7_payPlaces 94 = .ok (.isub, 1) := by decide +kernel
theorem dX7_payPlaces_95 : decode cX7_payPlaces 95 = .ok (.goto 5, 3) := by decide +kernel
theorem dX7_payPlaces_98 : decode cX7_payPlaces 98 = .ok (.iload 5, 2) := by decide +kernel
theorem dX7_payPlaces_100 : decode cX7_payPlaces 100 = .ok (.dup2, 1) := by decide +kernel
theorem dX7_payPlaces_101 : decode cX7_payPlaces 101 = .ok (.iaload, 1) := by decide +kernel
theorem dX7_payPlaces_102 : decode cX7_payPlaces 102 = .ok (.aload_n 1, 1) := by decide +kernel
theorem dX7_payPlaces_103 : decode cX7_payPlaces 103 = .ok (.getfield 39, 3) := by decide +kernel
theorem dX7_payPlaces_106 : decode cX7_payPlaces 106 = .ok (.iload_n 3, 1) := by decide +kernel
theorem dX7_payPlaces_107 : decode cX7_payPlaces 107 = .ok (.iconst 1, 1) := by decide +kernel
theorem dX7_payPlaces_108 : decode cX7_payPlaces 108 = .ok (.iadd, 1) := by decide +kernel
theorem dX7_payPlaces_109 : decode cX7_payPlaces 109 = .ok (.iaload, 1) := by decide +kernel
theorem dX7_payPlaces_110 : decode cX7_payPlaces 110 = .ok (.iload 5, 2) := by decide +kernel
theorem dX7_payPlaces_112 : decode cX7_payPlaces 112 = .ok (.aload_n 1, 1) := by decide +kernel
theorem dX7_payPlaces_113 : decode cX7_payPlaces 113 = .ok (.getfield 39, 3) := by decide +kernel
theorem dX7_payPlaces_116 : decode cX7_payPlaces 116 = .ok (.iload_n 3, 1) := by decide +kernel
theorem dX7_payPlaces_117 : decode cX7_payPlaces 117 = .ok (.iconst 2, 1) := by decide +kernel
theorem dX7_payPlaces_118 : decode cX7_payPlaces 118 = .ok (.iadd, 1) := by decide +kernel
theorem dX7_payPlaces_119 : decode cX7_payPlaces 119 = .ok (.iaload, 1) := by decide +kernel
theorem dX7_payPlaces_120 : decode cX7_payPlaces 120 = .ok (.imul, 1) := by decide +kernel
theorem dX7_payPlaces_121 : decode cX7_payPlaces 121 = .ok (.invokestatic 42, 3) := by decide +kernel
theorem dX7_payPlaces_124 : decode cX7_payPlaces 124 = .ok (.iadd, 1) := by decide +kernel
theorem dX7_payPlaces_125 : decode cX7_payPlaces 125 = .ok (.iastore, 1) := by decide +kernel
theorem dX7_payPlaces_126 : decode cX7_payPlaces 126 = .ok (.iinc 5 1, 3) := by decide +kernel
theorem dX7_payPlaces_129 : decode cX7_payPlaces 129 = .ok (.goto (-68), 3) := by decide +kernel
theorem dX7_payPlaces_132 : decode cX7_payPlaces 132 = .ok (.iinc 3 4, 3) := by decide +kernel
theorem dX7_payPlaces_135 : decode cX7_payPlaces 135 = .ok (.goto (-105), 3) := by decide +kernel
theorem dX7_payPlaces_138 : decode cX7_payPlaces 138 = .ok (.return_, 1) := by decide +kernel
theorem dX7_share_0 : decode cX7_share 0 = .ok (.iload_n 0, 1) := by decide +kernel
theorem dX7_share_1 : decode cX7_share 1 = .ok (.ifCond .le 13, 3) := by decide +kernel
theorem dX7_share_4 : decode cX7_share 4 = .ok (.iconst 0, 1) := by decide +kernel
theorem dX7_share_5 : decode cX7_share 5 = .ok (.iload_n 0, 1) := by decide +kernel
theorem dX7_share_6 : decode cX7_share 6 = .ok (.iload_n 1, 1) := by decide +kernel
theorem dX7_share_7 : decode cX7_share 7 = .ok (.isub, 1) := by decide +kernel
theorem dX7_share_8 : decode cX7_share 8 = .ok (.invokestatic 46, 3) := by decide +kernel
theorem dX7_share_11 : decode cX7_share 11 = .ok (.goto 10, 3) := by decide +kernel
theorem dX7_share_14 : decode cX7_share 14 = .ok (.iconst 0, 1) := by decide +kernel
theorem dX7_share_15 : decode cX7_share 15 = .ok (.iload_n 0, 1) := by decide +kernel
theorem dX7_share_16 : decode cX7_share 16 = .ok (.iload_n 1, 1) := by decide +kernel
theorem dX7_share_17 : decode cX7_share 17 = .ok (.iadd, 1) := by decide +kernel
theorem dX7_share_18 : decode cX7_share 18 = .ok (.invokestatic 51, 3) := by decide +kernel
theorem dX7_share_21 : decode cX7_share 21 = .ok (.ireturn, 1) := by decide +kernel
theorem dX7_lineUp_0 : decode cX7_lineUp 0 = .ok (.aload_n 0, 1) := by decide +kernel
theorem dX7_lineUp_1 : decode cX7_lineUp 1 = .ok (.aload_n 1, 1) := by decide +kernel
theorem dX7_lineUp_2 : decode cX7_lineUp 2 = .ok (.iload_n 2, 1) := by decide +kernel
theorem dX7_lineUp_3 : decode cX7_lineUp 3 = .ok (.invokevirtual 54, 3) := by decide +kernel
theorem dX7_lineUp_6 : decode cX7_lineUp 6 = .ok (.iconst 0, 1) := by decide +kernel
theorem dX7_lineUp_7 : decode cX7_lineUp 7 = .ok (.istore_n 3, 1) := by decide +kernel
theorem dX7_lineUp_8 : decode cX7_lineUp 8 = .ok (.iload_n 3, 1) := by decide +kernel
theorem dX7_lineUp_9 : decode cX7_lineUp 9 = .ok (.aload_n 1, 1) := by decide +kernel
theorem dX7_lineUp_10 : decode cX7_lineUp 10 = .ok (.getfield 27, 3) := by decide +kernel
theorem dX7_lineUp_13 : decode cX7_lineUp 13 = .ok (.getfield 33, 3) := by decide +kernel
theorem dX7_lineUp_16 : decode cX7_lineUp 16 = .ok (.if_icmp .ge 84, 3) := by decide +kernel
theorem dX7_lineUp_19 : decode cX7_lineUp 19 = .ok (.aload_n 0, 1) := by decide +kernel
theorem dX7_lineUp_20 : decode cX7_lineUp 20 = .ok (.getfield 15, 3) := by decide +kernel
theorem dX7_lineUp_23 : decode cX7_lineUp 23 = .ok (.iload_n 3, 1) := by decide +kernel
theorem dX7_lineUp_24 : decode cX7_lineUp 24 = .ok (.aload_n 0, 1) := by decide +kernel
theorem dX7_lineUp_25 : decode cX7_lineUp 25 = .ok (.aload_n 1, 1) := by decide +kernel
theorem dX7_lineUp_26 : decode cX7_lineUp 26 = .ok (.getfield 27, 3) := by decide +kernel
theorem dX7_lineUp_29 : decode cX7_lineUp 29 = .ok (.getfield 58, 3) := by decide +kernel
theorem dX7_lineUp_32 : decode cX7_lineUp 32 = .ok (.iload_n 3, 1) := by decide +kernel
theorem dX7_lineUp_33 : decode cX7_lineUp 33 = .ok (.iaload, 1) := by decide +kernel
theorem dX7_lineUp_34 : decode cX7_lineUp 34 = .ok (.invokevirtual 61, 3) := by decide +kernel
theorem dX7_lineUp_37 : decode cX7_lineUp 37 = .ok (.iastore, 1) := by decide +kernel
theorem dX7_lineUp_38 : decode cX7_lineUp 38 = .ok (.iload_n 3, 1) := by decide +kernel
theorem dX7_lineUp_39 : decode cX7_lineUp 39 = .ok (.istore 4, 2) := by decide +kernel
theorem dX7_lineUp_41 : decode cX7_lineUp 41 = .ok (.iload 4, 2) := by decide +kernel
theorem dX7_lineUp_43 : decode cX7_lineUp 43 = .ok (.ifCond .le 43, 3) := by decide +kernel
theorem dX7_lineUp_46 : decode cX7_lineUp 46 = .ok (.aload_n 0, 1) := by decide +kernel
theorem dX7_lineUp_47 : decode cX7_lineUp 47 = .ok (.aload_n 1, 1) := by decide +kernel
theorem dX7_lineUp_48 : decode cX7_lineUp 48 = .ok (.iload_n 3, 1) := by decide +kernel
theorem dX7_lineUp_49 : decode cX7_lineUp 49 = .ok (.aload_n 0, 1) := by decide +kernel
theorem dX7_lineUp_50 : decode cX7_lineUp 50 = .ok (.getfield 18, 3) := by decide +kernel
theorem dX7_lineUp_53 : decode cX7_lineUp 53 = .ok (.iload 4, 2) := by decide +kernel
theorem dX7_lineUp_55 : decode cX7_lineUp 55 = .ok (.iconst 1, 1) := by decide +kernel
theorem dX7_lineUp_56 : decode cX7_lineUp 56 = .ok (.isub, 1) := by decide +kernel
theorem dX7_lineUp_57 : decode cX7_lineUp 57 = .ok (.iaload, 1) := by decide +kernel
theorem dX7_lineUp_58 : decode cX7_lineUp 58 = .ok (.invokevirtual 65, 3) := by decide +kernel
theorem dX7_lineUp_61 : decode cX7_lineUp 61 = .ok (.ifCond .eq 25, 3) := by decide +kernel
theorem dX7_lineUp_64 : decode cX7_lineUp 64 = .ok (.aload_n 0, 1) := by decide +kernel
theorem dX7_lineUp_65 : decode cX7_lineUp 65 = .ok (.getfield 18, 3) := by decide +kernel
theorem dX7_lineUp_68 : decode cX7_lineUp 68 = .ok (.iload 4, 2) := by decide +kernel
theorem dX7_lineUp_70 : decode cX7_lineUp 70 = .ok (.aload_n 0, 1) := by decide +kernel
theorem dX7_lineUp_71 : decode cX7_lineUp 71 = .ok (.getfield 18, 3) := by decide +kernel
theorem dX7_lineUp_74 : decode cX7_lineUp 74 = .ok (.iload 4, 2) := by decide +kernel
theorem dX7_lineUp_76 : decode cX7_lineUp 76 = .ok (.iconst 1, 1) := by decide +kernel
theorem dX7_lineUp_77 : decode cX7_lineUp 77 = .ok (.isub, 1) := by decide +kernel
theorem dX7_lineUp_78 : decode cX7_lineUp 78 = .ok (.iaload, 1) := by decide +kernel
theorem dX7_lineUp_79 : decode cX7_lineUp 79 = .ok (.iastore, 1) := by decide +kernel
theorem dX7_lineUp_80 : decode cX7_lineUp 80 = .ok (.iinc 4 (-1), 3) := by decide +kernel
theorem dX7_lineUp_83 : decode cX7_lineUp 83 = .ok (.goto (-42), 3) := by decide +kernel
theorem dX7_lineUp_86 : decode cX7_lineUp 86 = .ok (.aload_n 0, 1) := by decide +kernel
theorem dX7_lineUp_87 : decode cX7_lineUp 87 = .ok (.getfield 18, 3) := by decide +kernel
theorem dX7_lineUp_90 : decode cX7_lineUp 90 = .ok (.iload 4, 2) := by decide +kernel
theorem dX7_lineUp_92 : decode cX7_lineUp 92 = .ok (.iload_n 3, 1) := by decide +kernel
theorem dX7_lineUp_93 : decode cX7_lineUp 93 = .ok (.iastore, 1) := by decide +kernel
theorem dX7_lineUp_94 : decode cX7_lineUp 94 = .ok (.iinc 3 1, 3) := by decide +kernel
theorem dX7_lineUp_97 : decode cX7_lineUp 97 = .ok (.goto (-89), 3) := by decide +kernel
theorem dX7_lineUp_100 : decode cX7_lineUp 100 = .ok (.iconst 0, 1) := by decide +kernel
theorem dX7_lineUp_101 : decode cX7_lineUp 101 = .ok (.istore_n 3, 1) := by decide +kernel
theorem dX7_lineUp_102 : decode cX7_lineUp 102 = .ok (.iload_n 3, 1) := by decide +kernel
theorem dX7_lineUp_103 : decode cX7_lineUp 103 = .ok (.aload_n 1, 1) := by decide +kernel
theorem dX7_lineUp_104 : decode cX7_lineUp 104 = .ok (.getfield 27, 3) := by decide +kernel
theorem dX7_lineUp_107 : decode cX7_lineUp 107 = .ok (.getfield 33, 3) := by decide +kernel
theorem dX7_lineUp_110 : decode cX7_lineUp 110 = .ok (.if_icmp .ge 21, 3) := by decide +kernel
theorem dX7_lineUp_113 : decode cX7_lineUp 113 = .ok (.aload_n 0, 1) := by decide +kernel
theorem dX7_lineUp_114 : decode cX7_lineUp 114 = .ok (.getfield 21, 3) := by decide +kernel
theorem dX7_lineUp_117 : decode cX7_lineUp 117 = .ok (.aload_n 0, 1) := by decide +kernel
theorem dX7_lineUp_118 : decode cX7_lineUp 118 = .ok (.getfield 18, 3) := by decide +kernel
theorem dX7_lineUp_121 : decode cX7_lineUp 121 = .ok (.iload_n 3, 1) := by decide +kernel
theorem dX7_lineUp_122 : decode cX7_lineUp 122 = .ok (.iaload, 1) := by decide +kernel
theorem dX7_lineUp_123 : decode cX7_lineUp 123 = .ok (.iload_n 3, 1) := by decide +kernel
theorem dX7_lineUp_124 : decode cX7_lineUp 124 = .ok (.iastore, 1) := by decide +kernel
theorem dX7_lineUp_125 : decode cX7_lineUp 125 = .ok (.iinc 3 1, 3) := by decide +kernel
theorem dX7_lineUp_128 : decode cX7_lineUp 128 = .ok (.goto (-26), 3) := by decide +kernel
theorem dX7_lineUp_131 : decode cX7_lineUp 131 = .ok (.return_, 1) := by decide +kernel
theorem dX7_rankLetters_0 : decode cX7_rankLetters 0 = .ok (.aload_n 1, 1) := by decide +kernel
theorem dX7_rankLetters_1 : decode cX7_rankLetters 1 = .ok (.getfield 69, 3) := by decide +kernel
theorem dX7_rankLetters_4 : decode cX7_rankLetters 4 = .ok (.iconst 0, 1) := by decide +kernel
theorem dX7_rankLetters_5 : decode cX7_rankLetters 5 = .ok (.iaload, 1) := by decide +kernel
theorem dX7_rankLetters_6 : decode cX7_rankLetters 6 = .ok (.istore_n 3, 1) := by decide +kernel
theorem dX7_rankLetters_7 : decode cX7_rankLetters 7 = .ok (.aload_n 1, 1) := by decide +kernel
theorem dX7_rankLetters_8 : decode cX7_rankLetters 8 = .ok (.getfield 72, 3) := by decide +kernel
theorem dX7_rankLetters_11 : decode cX7_rankLetters 11 = .ok (.istore 4, 2) := by decide +kernel
theorem dX7_rankLetters_13 : decode cX7_rankLetters 13 = .ok (.iload 4, 2) := by decide +kernel
theorem dX7_rankLetters_15 : decode cX7_rankLetters 15 = .ok (.bipush 26, 2) := by decide +kernel
theorem dX7_rankLetters_17 : decode cX7_rankLetters 17 = .ok (.if_icmp .ge 43, 3) := by decide +kernel
theorem dX7_rankLetters_20 : decode cX7_rankLetters 20 = .ok (.aload_n 0, 1) := by decide +kernel
theorem dX7_rankLetters_21 : decode cX7_rankLetters 21 = .ok (.getfield 9, 3) := by decide +kernel
theorem dX7_rankLetters_24 : decode cX7_rankLetters 24 = .ok (.iload 4, 2) := by decide +kernel
theorem dX7_rankLetters_26 : decode cX7_rankLetters 26 = .ok (.iload_n 3, 1) := by decide +kernel
theorem dX7_rankLetters_27 : decode cX7_rankLetters 27 = .ok (.iconst 2, 1) := by decide +kernel
theorem dX7_rankLetters_28 : decode cX7_rankLetters 28 = .ok (.if_icmp .ne 7, 3) := by decide +kernel
theorem dX7_rankLetters_31 : decode cX7_rankLetters 31 = .ok (.iconst (-1), 1) := by decide +kernel
theorem dX7_rankLetters_32 : decode cX7_rankLetters 32 = .ok (.goto 21, 3) := by decide +kernel
theorem dX7_rankLetters_35 : decode cX7_rankLetters 35 = .ok (.iload 4, 2) := by decide +kernel
theorem dX7_rankLetters_37 : decode cX7_rankLetters 37 = .ok (.iconst 1, 1) := by decide +kernel
theorem dX7_rankLetters_38 : decode cX7_rankLetters 38 = .ok (.iadd, 1) := by decide +kernel
theorem dX7_rankLetters_39 : decode cX7_rankLetters 39 = .ok (.iload_n 3, 1) := by decide +kernel
theorem dX7_rankLetters_40 : decode cX7_rankLetters 40 = .ok (.iconst 1, 1) := by decide +kernel
theorem dX7_rankLetters_41 : decode cX7_rankLetters 41 = .ok (.if_icmp .ne 10, 3) := by decide +kernel
theorem dX7_rankLetters_44 : decode cX7_rankLetters 44 = .ok (.aload_n 1, 1) := by decide +kernel
theorem dX7_rankLetters_45 : decode cX7_rankLetters 45 = .ok (.getfield 72, 3) := by decide +kernel
theorem dX7_rankLetters_48 : decode cX7_rankLetters 48 = .ok (.goto 4, 3) := by decide +kernel
theorem dX7_rankLetters_51 : decode cX7_rankLetters 51 = .ok (.iconst 0, 1) := by decide +kernel
theorem dX7_rankLetters_52 : decode cX7_rankLetters 52 = .ok (.isub, 1) := by decide +kernel
theorem dX7_rankLetters_53 : decode cX7_rankLetters 53 = .ok (.iastore, 1) := by decide +kernel
theorem dX7_rankLetters_54 : decode cX7_rankLetters 54 = .ok (.iinc 4 1, 3) := by decide +kernel
theorem dX7_rankLetters_57 : decode cX7_rankLetters 57 = .ok (.goto (-44), 3) := by decide +kernel
theorem dX7_rankLetters_60 : decode cX7_rankLetters 60 = .ok (.iload_n 3, 1) := by decide +kernel
theorem dX7_rankLetters_61 : decode cX7_rankLetters 61 = .ok (.iconst 1, 1) := by decide +kernel
theorem dX7_rankLetters_62 : decode cX7_rankLetters 62 = .ok (.if_icmp .ne 13, 3) := by decide +kernel
theorem dX7_rankLetters_65 : decode cX7_rankLetters 65 = .ok (.bipush 26, 2) := by decide +kernel
theorem dX7_rankLetters_67 : decode cX7_rankLetters 67 = .ok (.aload_n 1, 1) := by decide +kernel
theorem dX7_rankLetters_68 : decode cX7_rankLetters 68 = .ok (.getfield 72, 3) := by decide +kernel
theorem dX7_rankLetters_71 : decode cX7_rankLetters 71 = .ok (.isub, 1) := by decide +kernel
theorem dX7_rankLetters_72 : decode cX7_rankLetters 72 = .ok (.goto 4, 3) := by decide +kernel
theorem dX7_rankLetters_75 : decode cX7_rankLetters 75 = .ok (.iconst 0, 1) := by decide +kernel
theorem dX7_rankLetters_76 : decode cX7_rankLetters 76 = .ok (.istore 4, 2) := by decide +kernel
theorem dX7_rankLetters_78 : decode cX7_rankLetters 78 = .ok (.iconst 0, 1) := by decide +kernel
theorem dX7_rankLetters_79 : decode cX7_rankLetters 79 = .ok (.istore 5, 2) := by decide +kernel
theorem dX7_rankLetters_81 : decode cX7_rankLetters 81 = .ok (.iload 5, 2) := by decide +kernel
theorem dX7_rankLetters_83 : decode cX7_rankLetters 83 = .ok (.aload_n 1, 1) := by decide +kernel
theorem dX7_rankLetters_84 : decode cX7_rankLetters 84 = .ok (.getfield 72, 3) := by decide +kernel
theorem dX7_rankLetters_87 : decode cX7_rankLetters 87 = .ok (.if_icmp .ge 31, 3) := by decide +kernel
theorem dX7_rankLetters_90 : decode cX7_rankLetters 90 = .ok (.aload_n 0, 1) := by decide +kernel
theorem dX7_rankLetters_91 : decode cX7_rankLetters 91 = .ok (.getfield 9, 3) := by decide +kernel
theorem dX7_rankLetters_94 : decode cX7_rankLetters 94 = .ok (.iload_n 2, 1) := by decide +kernel
theorem dX7_rankLetters_95 : decode cX7_rankLetters 95 = .ok (.aload_n 1, 1) := by decide +kernel
theorem dX7_rankLetters_96 : decode cX7_rankLetters 96 = .ok (.getfield 72, 3) := by decide +kernel
theorem dX7_rankLetters_99 : decode cX7_rankLetters 99 = .ok (.iload 5, 2) := by decide +kernel
theorem dX7_rankLetters_101 : decode cX7_rankLetters 101 = .ok (.invokestatic 75, 3) := by decide +kernel
theorem dX7_rankLetters_104 : decode cX7_rankLetters 104 = .ok (.iload 4, 2) := by decide +kernel
theorem dX7_rankLetters_106 : decode cX7_rankLetters 106 = .ok (.iload 5, 2) := by decide +kernel
theorem dX7_rankLetters_108 : decode cX7_rankLetters 108 = .ok (.iadd, 1) := by decide +kernel
theorem dX7_rankLetters_109 : decode cX7_rankLetters 109 = .ok (.iconst 1, 1) := by decide +kernel
theorem dX7_rankLetters_110 : decode cX7_rankLetters 110 = .ok (.iadd, 1) := by decide +kernel
theorem dX7_rankLetters_111 : decode cX7_rankLetters 111 = .ok (.iastore, 1) := by decide +kernel
theorem dX7_rankLetters_112 : decode cX7_rankLetters 112 = .ok (.iinc 5 1, 3) := by decide +kernel
theorem dX7_rankLetters_115 : decode cX7_rankLetters 115 = .ok (.goto (-34), 3) := by decide +kernel
theorem dX7_rankLetters_118 : decode cX7_rankLetters 118 = .ok (.return_, 1) := by decide +kernel
theorem dX7_keyOf_0 : decode cX7_keyOf 0 = .ok (.iconst 0, 1) := by decide +kernel
theorem dX7_keyOf_1 : decode cX7_keyOf 1 = .ok (.istore_n 2, 1) := by decide +kernel
theorem dX7_keyOf_2 : decode cX7_keyOf 2 = .ok (.iconst 0, 1) := by decide +kernel
theorem dX7_keyOf_3 : decode cX7_keyOf 3 = .ok (.istore_n 3, 1) := by decide +kernel
theorem dX7_keyOf_4 : decode cX7_keyOf 4 = .ok (.iconst 0, 1) := by decide +kernel
theorem dX7_keyOf_5 : decode cX7_keyOf 5 = .ok (.istore 4, 2) := by decide +kernel
theorem dX7_keyOf_7 : decode cX7_keyOf 7 = .ok (.iload 4, 2) := by decide +kernel
theorem dX7_keyOf_9 : decode cX7_keyOf 9 = .ok (.bipush 6, 2) := by decide +kernel
theorem dX7_keyOf_11 : decode cX7_keyOf 11 = .ok (.if_icmp .ge 57, 3) := by decide +kernel
theorem dX7_keyOf_14 : decode cX7_keyOf 14 = .ok (.iload_n 1, 1) := by decide +kernel
theorem dX7_keyOf_15 : decode cX7_keyOf 15 = .ok (.iload 4, 2) := by decide +kernel
theorem dX7_keyOf_17 : decode cX7_keyOf 17 = .ok (.invokestatic 81, 3) := by decide +kernel
theorem dX7_keyOf_20 : decode cX7_keyOf 20 = .ok (.istore 5, 2) := by decide +kernel
theorem dX7_keyOf_22 : decode cX7_keyOf 22 = .ok (.iload 5, 2) := by decide +kernel
theorem dX7_keyOf_24 : decode cX7_keyOf 24 = .ok (.ifCond .lt 38, 3) := by decide +kernel
theorem dX7_keyOf_27 : decode cX7_keyOf 27 = .ok (.iload 5, 2) := by decide +kernel
theorem dX7_keyOf_29 : decode cX7_keyOf 29 = .ok (.bipush 26, 2) := by decide +kernel
theorem dX7_keyOf_31 : decode cX7_keyOf 31 = .ok (.if_icmp .ge 31, 3) := by decide +kernel
theorem dX7_keyOf_34 : decode cX7_keyOf 34 = .ok (.aload_n 0, 1) := by decide +kernel
theorem dX7_keyOf_35 : decode cX7_keyOf 35 = .ok (.getfield 9, 3) := by decide +kernel
theorem dX7_keyOf_38 : decode cX7_keyOf 38 = .ok (.iload 5, 2) := by decide +kernel
theorem dX7_keyOf_40 : decode cX7_keyOf 40 = .ok (.iaload, 1) := by decide +kernel
theorem dX7_keyOf_41 : decode cX7_keyOf 41 = .ok (.iconst (-1), 1) := by decide +kernel
theorem dX7_keyOf_42 : decode cX7_keyOf 42 = .ok (.if_icmp .eq 20, 3) := by decide +kernel
theorem dX7_keyOf_45 : decode cX7_keyOf 45 = .ok (.iload_n 2, 1) := by decide +kernel
theorem dX7_keyOf_46 : decode cX7_keyOf 46 = .ok (.aload_n 0, 1) := by decide +kernel
theorem dX7_keyOf_47 : decode cX7_keyOf 47 = .ok (.getfield 9, 3) := by decide +kernel
theorem dX7_keyOf_50 : decode cX7_keyOf 50 = .ok (.iload 5, 2) := by decide +kernel
theorem dX7_keyOf_52 : decode cX7_keyOf 52 = .ok (.iaload, 1) := by decide +kernel
theorem dX7_keyOf_53 : decode cX7_keyOf 53 = .ok (.iload_n 3, 1) := by decide +kernel
theorem dX7_keyOf_54 : decode cX7_keyOf 54 = .ok (.invokestatic 84, 3) := by decide +kernel
theorem dX7_keyOf_57 : decode cX7_keyOf 57 = .ok (.ior, 1) := by decide +kernel
theorem dX7_keyOf_58 : decode cX7_keyOf 58 = .ok (.istore_n 2, 1) := by decide +kernel
theorem dX7_keyOf_59 : decode cX7_keyOf 59 = .ok (.iinc 3 1, 3) := by decide +kernel
theorem dX7_keyOf_62 : decode cX7_keyOf 62 = .ok (.iinc 4 1, 3) := by decide +kernel
theorem dX7_keyOf_65 : decode cX7_keyOf 65 = .ok (.goto (-58), 3) := by decide +kernel
theorem dX7_keyOf_68 : decode cX7_keyOf 68 = .ok (.iload_n 2, 1) := by decide +kernel
theorem dX7_keyOf_69 : decode cX7_keyOf 69 = .ok (.ireturn, 1) := by decide +kernel
theorem dX7_isAhead_0 : decode cX7_isAhead 0 = .ok (.aload_n 0, 1) := by decide +kernel
theorem dX7_isAhead_1 : decode cX7_isAhead 1 = .ok (.getfield 15, 3) := by decide +kernel
theorem dX7_isAhead_4 : decode cX7_isAhead 4 = .ok (.iload_n 2, 1) := by decide +kernel
theorem dX7_isAhead_5 : decode cX7_isAhead 5 = .ok (.iaload, 1) := by decide +kernel
theorem dX7_isAhead_6 : decode cX7_isAhead 6 = .ok (.aload_n 0, 1) := by decide +kernel
theorem dX7_isAhead_7 : decode cX7_isAhead 7 = .ok (.getfield 15, 3) := by decide +kernel
theorem dX7_isAhead_10 : decode cX7_isAhead 10 = .ok (.iload_n 3, 1) := by decide +kernel
theorem dX7_isAhead_11 : decode cX7_isAhead 11 = .ok (.iaload, 1) := by decide +kernel
theorem dX7_isAhead_12 : decode cX7_isAhead 12 = .ok (.if_icmp .eq 24, 3) := by decide +kernel
theorem dX7_isAhead_15 : decode cX7_isAhead 15 = .ok (.aload_n 0, 1) := by decide +kernel
theorem dX7_isAhead_16 : decode cX7_isAhead 16 = .ok (.getfield 15, 3) := by decide +kernel
theorem dX7_isAhead_19 : decode cX7_isAhead 19 = .ok (.iload_n 2, 1) := by decide +kernel
theorem dX7_isAhead_20 : decode cX7_isAhead 20 = .ok (.iaload, 1) := by decide +kernel
theorem dX7_isAhead_21 : decode cX7_isAhead 21 = .ok (.aload_n 0, 1) := by decide +kernel
theorem dX7_isAhead_22 : decode cX7_isAhead 22 = .ok (.getfield 15, 3) := by decide +kernel
theorem dX7_isAhead_25 : decode cX7_isAhead 25 = .ok (.iload_n 3, 1) := by decide +kernel
theorem dX7_isAhead_26 : decode cX7_isAhead 26 = .ok (.iaload, 1) := by decide +kernel
theorem dX7_isAhead_27 : decode cX7_isAhead 27 = .ok (.if_icmp .ge 7, 3) := by decide +kernel
theorem dX7_isAhead_30 : decode cX7_isAhead 30 = .ok (.iconst 1, 1) := by decide +kernel
theorem dX7_isAhead_31 : decode cX7_isAhead 31 = .ok (.goto 4, 3) := by decide +kernel
theorem dX7_isAhead_34 : decode cX7_isAhead 34 = .ok (.iconst 0, 1) := by decide +kernel
theorem dX7_isAhead_35 : decode cX7_isAhead 35 = .ok (.ireturn, 1) := by decide +kernel
theorem dX7_isAhead_36 : decode cX7_isAhead 36 = .ok (.aload_n 1, 1) := by decide +kernel
theorem dX7_isAhead_37 : decode cX7_isAhead 37 = .ok (.getfield 69, 3) := by decide +kernel
theorem dX7_isAhead_40 : decode cX7_isAhead 40 = .ok (.iconst 1, 1) := by decide +kernel
theorem dX7_isAhead_41 : decode cX7_isAhead 41 = .ok (.iaload, 1) := by decide +kernel
theorem dX7_isAhead_42 : decode cX7_isAhead 42 = .ok (.istore 4, 2) := by decide +kernel
theorem dX7_isAhead_44 : decode cX7_isAhead 44 = .ok (.iload 4, 2) := by decide +kernel
theorem dX7_isAhead_46 : decode cX7_isAhead 46 = .ok (.ifCond .ne 7, 3) := by decide +kernel
theorem dX7_isAhead_49 : decode cX7_isAhead 49 = .ok (.iconst 0, 1) := by decide +kernel
theorem dX7_isAhead_50 : decode cX7_isAhead 50 = .ok (.goto 30, 3) := by decide +kernel
theorem dX7_isAhead_53 : decode cX7_isAhead 53 = .ok (.iload 4, 2) := by decide +kernel
theorem dX7_isAhead_55 : decode cX7_isAhead 55 = .ok (.iconst 1, 1) := by decide +kernel
theorem dX7_isAhead_56 : decode cX7_isAhead 56 = .ok (.if_icmp .ne 15, 3) := by decide +kernel
theorem dX7_isAhead_59 : decode cX7_isAhead 59 = .ok (.aload_n 1, 1) := by decide +kernel
theorem dX7_isAhead_60 : decode cX7_isAhead 60 = .ok (.getfield 27, 3) := by decide +kernel
theorem dX7_isAhead_63 : decode cX7_isAhead 63 = .ok (.getfield 87, 3) := by decide +kernel
theorem dX7_isAhead_66 : decode cX7_isAhead 66 = .ok (.iload_n 2, 1) := by decide +kernel
theorem dX7_isAhead_67 : decode cX7_isAhead 67 = .ok (.iaload, 1) := by decide +kernel
theorem dX7_isAhead_68 : decode cX7_isAhead 68 = .ok (.goto 12, 3) := by decide +kernel
theorem dX7_isAhead_71 : decode cX7_isAhead 71 = .ok (.aload_n 1, 1) := by decide +kernel
theorem dX7_isAhead_72 : decode cX7_isAhead 72 = .ok (.getfield 27, 3) := by decide +kernel
theorem dX7_isAhead_75 : decode cX7_isAhead 75 = .ok (.getfield 90, 3) := by decide +kernel
theorem dX7_isAhead_78 : decode cX7_isAhead 78 = .ok (.iload_n 2, 1) := by decide +kernel
theorem dX7_isAhead_79 : decode cX7_isAhead 79 = .ok (.iaload, 1) := by decide +kernel
theorem dX7_isAhead_80 : decode cX7_isAhead 80 = .ok (.istore 5, 2) := by decide +kernel
theorem dX7_isAhead_82 : decode cX7_isAhead 82 = .ok (.iload 4, 2) := by decide +kernel
theorem dX7_isAhead_84 : decode cX7_isAhead 84 = .ok (.ifCond .ne 7, 3) := by decide +kernel
theorem dX7_isAhead_87 : decode cX7_isAhead 87 = .ok (.iconst 0, 1) := by decide +kernel
theorem dX7_isAhead_88 : decode cX7_isAhead 88 = .ok (.goto 30, 3) := by decide +kernel
theorem dX7_isAhead_91 : decode cX7_isAhead 91 = .ok (.iload 4, 2) := by decide +kernel
theorem dX7_isAhead_93 : decode cX7_isAhead 93 = .ok (.iconst 1, 1) := by decide +kernel
theorem dX7_isAhead_94 : decode cX7_isAhead 94 = .ok (.if_icmp .ne 15, 3) := by decide +kernel
theorem dX7_isAhead_97 : decode cX7_isAhead 97 = .ok (.aload_n 1, 1) := by decide +kernel
theorem dX7_isAhead_98 : decode cX7_isAhead 98 = .ok (.getfield 27, 3) := by decide +kernel
theorem dX7_isAhead_101 : decode cX7_isAhead 101 = .ok (.getfield 87, 3) := by decide +kernel
theorem dX7_isAhead_104 : decode cX7_isAhead 104 = .ok (.iload_n 3, 1) := by decide +kernel
theorem dX7_isAhead_105 : decode cX7_isAhead 105 = .ok (.iaload, 1) := by decide +kernel
theorem dX7_isAhead_106 : decode cX7_isAhead 106 = .ok (.goto 12, 3) := by decide +kernel
theorem dX7_isAhead_109 : decode cX7_isAhead 109 = .ok (.aload_n 1, 1) := by decide +kernel
theorem dX7_isAhead_110 : decode cX7_isAhead 110 = .ok (.getfield 27, 3) := by decide +kernel
theorem dX7_isAhead_113 : decode cX7_isAhead 113 = .ok (.getfield 90, 3) := by decide +kernel
theorem dX7_isAhead_116 : decode cX7_isAhead 116 = .ok (.iload_n 3, 1) := by decide +kernel
theorem dX7_isAhead_117 : decode cX7_isAhead 117 = .ok (.iaload, 1) := by decide +kernel
theorem dX7_isAhead_118 : decode cX7_isAhead 118 = .ok (.istore 6, 2) := by decide +kernel
theorem dX7_isAhead_120 : decode cX7_isAhead 120 = .ok (.iload 5, 2) := by decide +kernel
theorem dX7_isAhead_122 : decode cX7_isAhead 122 = .ok (.iload 6, 2) := by decide +kernel
theorem dX7_isAhead_124 : decode cX7_isAhead 124 = .ok (.if_icmp .ne 16, 3) := by decide +kernel
theorem dX7_isAhead_127 : decode cX7_isAhead 127 = .ok (.iload_n 2, 1) := by decide +kernel
theorem dX7_isAhead_128 : decode cX7_isAhead 128 = .ok (.iload_n 3, 1) := by decide +kernel
theorem dX7_isAhead_129 : decode cX7_isAhead 129 = .ok (.if_icmp .ge 7, 3) := by decide +kernel
theorem dX7_isAhead_132 : decode cX7_isAhead 132 = .ok (.iconst 1, 1) := by decide +kernel
theorem dX7_isAhead_133 : decode cX7_isAhead 133 = .ok (.goto 19, 3) := by decide +kernel
theorem dX7_isAhead_136 : decode cX7_isAhead 136 = .ok (.iconst 0, 1) := by decide +kernel
theorem dX7_isAhead_137 : decode cX7_isAhead 137 = .ok (.goto 15, 3) := by decide +kernel
theorem dX7_isAhead_140 : decode cX7_isAhead 140 = .ok (.iload 5, 2) := by decide +kernel
theorem dX7_isAhead_142 : decode cX7_isAhead 142 = .ok (.iload 6, 2) := by decide +kernel
theorem dX7_isAhead_144 : decode cX7_isAhead 144 = .ok (.if_icmp .le 7, 3) := by decide +kernel
theorem dX7_isAhead_147 : decode cX7_isAhead 147 = .ok (.iconst 1, 1) := by decide +kernel
theorem dX7_isAhead_148 : decode cX7_isAhead 148 = .ok (.goto 4, 3) := by decide +kernel
theorem dX7_isAhead_151 : decode cX7_isAhead 151 = .ok (.iconst 0, 1) := by decide +kernel
theorem dX7_isAhead_152 : decode cX7_isAhead 152 = .ok (.ireturn, 1) := by decide +kernel
theorem dX7_worthOf_0 : decode cX7_worthOf 0 = .ok (.aload_n 0, 1) := by decide +kernel
theorem dX7_worthOf_1 : decode cX7_worthOf 1 = .ok (.getfield 24, 3) := by decide +kernel
theorem dX7_worthOf_4 : decode cX7_worthOf 4 = .ok (.aload_n 0, 1) := by decide +kernel
theorem dX7_worthOf_5 : decode cX7_worthOf 5 = .ok (.getfield 21, 3) := by decide +kernel
theorem dX7_worthOf_8 : decode cX7_worthOf 8 = .ok (.iload_n 1, 1) := by decide +kernel
theorem dX7_worthOf_9 : decode cX7_worthOf 9 = .ok (.iaload, 1) := by decide +kernel
theorem dX7_worthOf_10 : decode cX7_worthOf 10 = .ok (.iaload, 1) := by decide +kernel
theorem dX7_worthOf_11 : decode cX7_worthOf 11 = .ok (.ireturn, 1) := by decide +kernel
theorem dX7_worthWith_0 : decode cX7_worthWith 0 = .ok (.aload_n 0, 1) := by decide +kernel
theorem dX7_worthWith_1 : decode cX7_worthWith 1 = .ok (.getfield 15, 3) := by decide +kernel
theorem dX7_worthWith_4 : decode cX7_worthWith 4 = .ok (.iload_n 2, 1) := by decide +kernel
theorem dX7_worthWith_5 : decode cX7_worthWith 5 = .ok (.iaload, 1) := by decide +kernel
theorem dX7_worthWith_6 : decode cX7_worthWith 6 = .ok (.istore 4, 2) := by decide +kernel
theorem dX7_worthWith_8 : decode cX7_worthWith 8 = .ok (.aload_n 0, 1) := by decide +kernel
theorem dX7_worthWith_9 : decode cX7_worthWith 9 = .ok (.getfield 15, 3) := by decide +kernel
theorem dX7_worthWith_12 : decode cX7_worthWith 12 = .ok (.iload_n 2, 1) := by decide +kernel
theorem dX7_worthWith_13 : decode cX7_worthWith 13 = .ok (.aload_n 0, 1) := by decide +kernel
theorem dX7_worthWith_14 : decode cX7_worthWith 14 = .ok (.iload_n 3, 1) := by decide +kernel
theorem dX7_worthWith_15 : decode cX7_worthWith 15 = .ok (.invokevirtual 61, 3) := by decide +kernel
theorem dX7_worthWith_18 : decode cX7_worthWith 18 = .ok (.iastore, 1) := by decide +kernel
theorem dX7_worthWith_19 : decode cX7_worthWith 19 = .ok (.iconst 0, 1) := by decide +kernel
theorem dX7_worthWith_20 : decode cX7_worthWith 20 = .ok (.istore 5, 2) := by decide +kernel
theorem dX7_worthWith_22 : decode cX7_worthWith 22 = .ok (.iconst 0, 1) := by decide +kernel
theorem dX7_worthWith_23 : decode cX7_worthWith 23 = .ok (.istore 6, 2) := by decide +kernel
theorem dX7_worthWith_25 : decode cX7_worthWith 25 = .ok (.iload 6, 2) := by decide +kernel
theorem dX7_worthWith_27 : decode cX7_worthWith 27 = .ok (.aload_n 1, 1) := by decide +kernel
theorem dX7_worthWith_28 : decode cX7_worthWith 28 = .ok (.getfield 27, 3) := by decide +kernel
theorem dX7_worthWith_31 : decode cX7_worthWith 31 = .ok (.getfield 33, 3) := by decide +kernel
theorem dX7_worthWith_34 : decode cX7_worthWith 34 = .ok (.if_icmp .ge 29, 3) := by decide +kernel
theorem dX7_worthWith_37 : decode cX7_worthWith 37 = .ok (.iload 6, 2) := by decide +kernel
theorem dX7_worthWith_39 : decode cX7_worthWith 39 = .ok (.iload_n 2, 1) := by decide +kernel
theorem dX7_worthWith_40 : decode cX7_worthWith 40 = .ok (.if_icmp .eq 17, 3) := by decide +kernel
theorem dX7_worthWith_43 : decode cX7_worthWith 43 = .ok (.aload_n 0, 1) := by decide +kernel
theorem dX7_worthWith_44 : decode cX7_worthWith 44 = .ok (.aload_n 1, 1) := by decide +kernel
theorem dX7_worthWith_45 : decode cX7_worthWith 45 = .ok (.iload 6, 2) := by decide +kernel
theorem dX7_worthWith_47 : decode cX7_worthWith 47 = .ok (.iload_n 2, 1) := by decide +kernel
theorem dX7_worthWith_48 : decode cX7_worthWith 48 = .ok (.invokevirtual 65, 3) := by decide +kernel
theorem dX7_worthWith_51 : decode cX7_worthWith 51 = .ok (.ifCond .eq 6, 3) := by decide +kernel
theorem dX7_worthWith_54 : decode cX7_worthWith 54 = .ok (.iinc 5 1, 3) := by decide +kernel
theorem dX7_worthWith_57 : decode cX7_worthWith 57 = .ok (.iinc 6 1, 3) := by decide +kernel
theorem dX7_worthWith_60 : decode cX7_worthWith 60 = .ok (.goto (-35), 3) := by decide +kernel
theorem dX7_worthWith_63 : decode cX7_worthWith 63 = .ok (.aload_n 0, 1) := by decide +kernel
theorem dX7_worthWith_64 : decode cX7_worthWith 64 = .ok (.getfield 15, 3) := by decide +kernel
theorem dX7_worthWith_67 : decode cX7_worthWith 67 = .ok (.iload_n 2, 1) := by decide +kernel
theorem dX7_worthWith_68 : decode cX7_worthWith 68 = .ok (.iload 4, 2) := by decide +kernel
theorem dX7_worthWith_70 : decode cX7_worthWith 70 = .ok (.iastore, 1) := by decide +kernel
theorem dX7_worthWith_71 : decode cX7_worthWith 71 = .ok (.aload_n 0, 1) := by decide +kernel
theorem dX7_worthWith_72 : decode cX7_worthWith 72 = .ok (.getfield 24, 3) := by decide +kernel
theorem dX7_worthWith_75 : decode cX7_worthWith 75 = .ok (.iload 5, 2) := by decide +kernel
theorem dX7_worthWith_77 : decode cX7_worthWith 77 = .ok (.iaload, 1) := by decide +kernel
theorem dX7_worthWith_78 : decode cX7_worthWith 78 = .ok (.ireturn, 1) := by decide +kernel
theorem dX8_init_0 : decode cX8_init 0 = .ok (.aload_n 0, 1) := by decide +kernel
theorem dX8_init_1 : decode cX8_init 1 = .ok (.invokespecial 3, 3) := by decide +kernel
theorem dX8_init_4 : decode cX8_init 4 = .ok (.aload_n 0, 1) := by decide +kernel
theorem dX8_init_5 : decode cX8_init 5 = .ok (.sipush 401, 3) := by decide +kernel
theorem dX8_init_8 : decode cX8_init 8 = .ok (.newarray .int, 2) := by decide +kernel
theorem dX8_init_10 : decode cX8_init 10 = .ok (.putfield 9, 3) := by decide +kernel
theorem dX8_init_13 : decode cX8_init 13 = .ok (.aload_n 0, 1) := by decide +kernel
theorem dX8_init_14 : decode cX8_init 14 = .ok (.sipush 401, 3) := by decide +kernel
theorem dX8_init_17 : decode cX8_init 17 = .ok (.newarray .int, 2) := by decide +kernel
theorem dX8_init_19 : decode cX8_init 19 = .ok (.putfield 15, 3) := by decide +kernel
theorem dX8_init_22 : decode cX8_init 22 = .ok (.aload_n 0, 1) := by decide +kernel
theorem dX8_init_23 : decode cX8_init 23 = .ok (.new 18, 3) := by decide +kernel
theorem dX8_init_26 : decode cX8_init 26 = .ok (.dup, 1) := by decide +kernel
theorem dX8_init_27 : decode cX8_init 27 = .ok (.invokespecial 20, 3) := by decide +kernel
theorem dX8_init_30 : decode cX8_init 30 = .ok (.putfield 21, 3) := by decide +kernel
theorem dX8_init_33 : decode cX8_init 33 = .ok (.aload_n 0, 1) := by decide +kernel
theorem dX8_init_34 : decode cX8_init 34 = .ok (.iconst 0, 1) := by decide +kernel
theorem dX8_init_35 : decode cX8_init 35 = .ok (.putfield 25, 3) := by decide +kernel
theorem dX8_init_38 : decode cX8_init 38 = .ok (.aload_n 0, 1) := by decide +kernel
theorem dX8_init_39 : decode cX8_init 39 = .ok (.iconst 0, 1) := by decide +kernel
theorem dX8_init_40 : decode cX8_init 40 = .ok (.putfield 29, 3) := by decide +kernel
theorem dX8_init_43 : decode cX8_init 43 = .ok (.aload_n 0, 1) := by decide +kernel
theorem dX8_init_44 : decode cX8_init 44 = .ok (.iconst (-1), 1) := by decide +kernel
theorem dX8_init_45 : decode cX8_init 45 = .ok (.putfield 32, 3) := by decide +kernel
theorem dX8_init_48 : decode cX8_init 48 = .ok (.return_, 1) := by decide +kernel
theorem dX8_read_0 : decode cX8_read 0 = .ok (.aload_n 0, 1) := by decide +kernel
theorem dX8_read_1 : decode cX8_read 1 = .ok (.aload_n 1, 1) := by decide +kernel
theorem dX8_read_2 : decode cX8_read 2 = .ok (.invokevirtual 35, 3) := by decide +kernel
theorem dX8_read_5 : decode cX8_read 5 = .ok (.aload_n 0, 1) := by decide +kernel
theorem dX8_read_6 : decode cX8_read 6 = .ok (.getfield 21, 3) := by decide +kernel
theorem dX8_read_9 : decode cX8_read 9 = .ok (.invokevirtual 39, 3) := by decide +kernel
theorem dX8_read_12 : decode cX8_read 12 = .ok (.aload_n 0, 1) := by decide +kernel
theorem dX8_read_13 : decode cX8_read 13 = .ok (.iconst 0, 1) := by decide +kernel
theorem dX8_read_14 : decode cX8_read 14 = .ok (.putfield 25, 3) := by decide +kernel
theorem dX8_read_17 : decode cX8_read 17 = .ok (.aload_n 0, 1) := by decide +kernel
theorem dX8_read_18 : decode cX8_read 18 = .ok (.iconst 0, 1) := by decide +kernel
theorem dX8_read_19 : decode cX8_read 19 = .ok (.putfield 29, 3) := by decide +kernel
theorem dX8_read_22 : decode cX8_read 22 = .ok (.aload_n 0, 1) := by decide +kernel
theorem dX8_read_23 : decode cX8_read 23 = .ok (.iconst (-1), 1) := by decide +kernel
theorem dX8_read_24 : decode cX8_read 24 = .ok (.putfield 32, 3) := by decide +kernel
theorem dX8_read_27 : decode cX8_read 27 = .ok (.iconst 0, 1) := by decide +kernel
theorem dX8_read_28 : decode cX8_read 28 = .ok (.istore_n 2, 1) := by decide +kernel
theorem dX8_read_29 : decode cX8_read 29 = .ok (.iload_n 2, 1) := by decide +kernel
theorem dX8_read_30 : decode cX8_read 30 = .ok (.sipush 400, 3) := by decide +kernel
theorem dX8_read_33 : decode cX8_read 33 = .ok (.if_icmp .ge 33, 3) := by decide +kernel
theorem dX8_read_36 : decode cX8_read 36 = .ok (.aload_n 0, 1) := by decide +kernel
theorem dX8_read_37 : decode cX8_read 37 = .ok (.getfield 9, 3) := by decide +kernel
theorem dX8_read_40 : decode cX8_read 40 = .ok (.aload_n 0, 1) := by decide +kernel
theorem dX8_read_41 : decode cX8_read 41 = .ok (.getfield 25, 3) := by decide +kernel
theorem dX8_read_44 : decode cX8_read 44 = .ok (.iaload, 1) := by decide +kernel
theorem dX8_read_45 : decode cX8_read 45 = .ok (.sipush 10200, 3) := by decide +kernel
theorem dX8_read_48 : decode cX8_read 48 = .ok (.if_icmp .eq 18, 3) := by decide +kernel
theorem dX8_read_51 : decode cX8_read 51 = .ok (.aload_n 0, 1) := by decide +kernel
theorem dX8_read_52 : decode cX8_read 52 = .ok (.invokevirtual 42, 3) := by decide +kernel
theorem dX8_read_55 : decode cX8_read 55 = .ok (.ifCond .ne 5, 3) := by decide +kernel
theorem dX8_read_58 : decode cX8_read 58 = .ok (.iconst 0, 1) := by decide +kernel
theorem dX8_read_59 : decode cX8_read 59 = .ok (.ireturn, 1) := by decide +kernel
theorem dX8_read_60 : decode cX8_read 60 = .ok (.iinc 2 1, 3) := by decide +kernel
theorem dX8_read_63 : decode cX8_read 63 = .ok (.goto (-34), 3) := by decide +kernel
theorem dX8_read_66 : decode cX8_read 66 = .ok (.iconst 1, 1) := by decide +kernel
theorem dX8_read_67 : decode cX8_read 67 = .ok (.ireturn, 1) := by decide +kernel
theorem dX8_split_0 : decode cX8_split 0 = .ok (.iconst 0, 1) := by decide +kernel
theorem dX8_split_1 : decode cX8_split 1 = .ok (.istore_n 2, 1) := by decide +kernel
theorem dX8_split_2 : decode cX8_split 2 = .ok (.iconst 0, 1) := by decide +kernel
theorem dX8_split_3 : decode cX8_split 3 = .ok (.istore_n 3, 1) := by decide +kernel
theorem dX8_split_4 : decode cX8_split 4 = .ok (.iconst 0, 1) := by decide +kernel
theorem dX8_split_5 : decode cX8_split 5 = .ok (.istore 4, 2) := by decide +kernel
theorem dX8_split_7 : decode cX8_split 7 = .ok (.iload 4, 2) := by decide +kernel
theorem dX8_split_9 : decode cX8_split 9 = .ok (.aload_n 1, 1) := by decide +kernel
theorem dX8_split_10 : decode cX8_split 10 = .ok (.getfield 46, 3) := by decide +kernel
theorem dX8_split_13 : decode cX8_split 13 = .ok (.if_icmp .ge 68, 3) := by decide +kernel
theorem dX8_split_16 : decode cX8_split 16 = .ok (.iload 4, 2) := by decide +kernel
theorem dX8_split_18 : decode cX8_split 18 = .ok (.sipush 400, 3) := by decide +kernel
theorem dX8_split_21 : decode cX8_split 21 = .ok (.if_icmp .ge 60, 3) := by decide +kernel
theorem dX8_split_24 : decode cX8_split 24 = .ok (.aload_n 1, 1) := by decide +kernel
theorem dX8_split_25 : decode cX8_split 25 = .ok (.iload 4, 2) := by decide +kernel
theorem dX8_split_27 : decode cX8_split 27 = .ok (.invokestatic 51, 3) := by decide +kernel
theorem dX8_split_30 : decode cX8_split 30 = .ok (.istore_n 3, 1) := by decide +kernel
theorem dX8_split_31 : decode cX8_split 31 = .ok (.aload_n 1, 1) := by decide +kernel
theorem dX8_split_32 : decode cX8_split 32 = .ok (.getfield 55, 3) := by decide +kernel
theorem dX8_split_35 : decode cX8_split 35 = .ok (.iload 4, 2) := by decide +kernel
theorem dX8_split_37 : decode cX8_split 37 = .ok (.iaload, 1) := by decide +kernel
theorem dX8_split_38 : decode cX8_split 38 = .ok (.invokestatic 58, 3) := by decide +kernel
theorem dX8_split_41 : decode cX8_split 41 = .ok (.ifCond .ne 27, 3) := by decide +kernel
theorem dX8_split_44 : decode cX8_split 44 = .ok (.aload_n 0, 1) := by decide +kernel
theorem dX8_split_45 : decode cX8_split 45 = .ok (.getfield 9, 3) := by decide +kernel
theorem dX8_split_48 : decode cX8_split 48 = .ok (.iload_n 2, 1) := by decide +kernel
theorem dX8_split_49 : decode cX8_split 49 = .ok (.aload_n 1, 1) := by decide +kernel
theorem dX8_split_50 : decode cX8_split 50 = .ok (.iload 4, 2) := by decide +kernel
theorem dX8_split_52 : decode cX8_split 52 = .ok (.iload_n 3, 1) := by decide +kernel
theorem dX8_split_53 : decode cX8_split 53 = .ok (.invokestatic 62, 3) := by decide +kernel
theorem dX8_split_56 : decode cX8_split 56 = .ok (.iastore, 1) := by decide +kernel
theorem dX8_split_57 : decode cX8_split 57 = .ok (.aload_n 0, 1) := by decide +kernel
theorem dX8_split_58 : decode cX8_split 58 = .ok (.getfield 15, 3) := by decide +kernel
theorem dX8_split_61 : decode cX8_split 61 = .ok (.iload_n 2, 1) := by decide +kernel
theorem dX8_split_62 : decode cX8_split 62 = .ok (.iload 4, 2) := by decide +kernel
theorem dX8_split_64 : decode cX8_split 64 = .ok (.iastore, 1) := by decide +kernel
theorem dX8_split_65 : decode cX8_split 65 = .ok (.iinc 2 1, 3) := by decide +kernel
theorem dX8_split_68 : decode cX8_split 68 = .ok (.iload 4, 2) := by decide +kernel
theorem dX8_split_70 : decode cX8_split 70 = .ok (.iconst 1, 1) := by decide +kernel
theorem dX8_split_71 : decode cX8_split 71 = .ok (.iadd, 1) := by decide +kernel
theorem dX8_split_72 : decode cX8_split 72 = .ok (.iload_n 3, 1) := by decide +kernel
theorem dX8_split_73 : decode cX8_split 73 = .ok (.invokestatic 66, 3) := by decide +kernel
theorem dX8_split_76 : decode cX8_split 76 = .ok (.istore 4, 2) := by decide +kernel
theorem dX8_split_78 : decode cX8_split 78 = .ok (.goto (-71), 3) := by decide +kernel
theorem dX8_split_81 : decode cX8_split 81 = .ok (.aload_n 0, 1) := by decide +kernel
theorem dX8_split_82 : decode cX8_split 82 = .ok (.getfield 9, 3) := by decide +kernel
theorem dX8_split_85 : decode cX8_split 85 = .ok (.iload_n 2, 1) := by decide +kernel
theorem dX8_split_86 : decode cX8_split 86 = .ok (.sipush 10200, 3) := by decide +kernel
theorem dX8_split_89 : decode cX8_split 89 = .ok (.iastore, 1) := by decide +kernel
theorem dX8_split_90 : decode cX8_split 90 = .ok (.aload_n 0, 1) := by decide +kernel
theorem dX8_split_91 : decode cX8_split 91 = .ok (.getfield 15, 3) := by decide +kernel
theorem dX8_split_94 : decode cX8_split 94 = .ok (.iload_n 2, 1) := by decide +kernel
theorem dX8_split_95 : decode cX8_split 95 = .ok (.aload_n 1, 1) := by decide +kernel
theorem dX8_split_96 : decode cX8_split 96 = .ok (.getfield 46, 3) := by decide +kernel
theorem dX8_split_99 : decode cX8_split 99 = .ok (.iastore, 1) := by decide +kernel
theorem dX8_split_100 : decode cX8_split 100 = .ok (.return_, 1) := by decide +kernel
theorem dX8_runEnd_0 : decode cX8_runEnd 0 = .ok (.aload_n 0, 1) := by decide +kernel
theorem dX8_runEnd_1 : decode cX8_runEnd 1 = .ok (.getfield 55, 3) := by decide +kernel
theorem dX8_runEnd_4 : decode cX8_runEnd 4 = .ok (.iload_n 1, 1) := by decide +kernel
theorem dX8_runEnd_5 : decode cX8_runEnd 5 = .ok (.iaload, 1) := by decide +kernel
theorem dX8_runEnd_6 : decode cX8_runEnd 6 = .ok (.invokestatic 72, 3) := by decide +kernel
theorem dX8_runEnd_9 : decode cX8_runEnd 9 = .ok (.istore_n 2, 1) := by decide +kernel
theorem dX8_runEnd_10 : decode cX8_runEnd 10 = .ok (.aload_n 0, 1) := by decide +kernel
theorem dX8_runEnd_11 : decode cX8_runEnd 11 = .ok (.getfield 55, 3) := by decide +kernel
theorem dX8_runEnd_14 : decode cX8_runEnd 14 = .ok (.iload_n 1, 1) := by decide +kernel
theorem dX8_runEnd_15 : decode cX8_runEnd 15 = .ok (.iaload, 1) := by decide +kernel
theorem dX8_runEnd_16 : decode cX8_runEnd 16 = .ok (.invokestatic 75, 3) := by decide +kernel
theorem dX8_runEnd_19 : decode cX8_runEnd 19 = .ok (.istore_n 3, 1) := by decide +kernel
theorem dX8_runEnd_20 : decode cX8_runEnd 20 = .ok (.iload_n 1, 1) := by decide +kernel
theorem dX8_runEnd_21 : decode cX8_runEnd 21 = .ok (.iconst 1, 1) := by decide +kernel
theorem dX8_runEnd_22 : decode cX8_runEnd 22 = .ok (.iadd, 1) := by decide +kernel
theorem dX8_runEnd_23 : decode cX8_runEnd 23 = .ok (.istore 4, 2) := by decide +kernel
theorem dX8_runEnd_25 : decode cX8_runEnd 25 = .ok (.iload 4, 2) := by decide +kernel
theorem dX8_runEnd_27 : decode cX8_runEnd 27 = .ok (.aload_n 0, 1) := by decide +kernel
theorem dX8_runEnd_28 : decode cX8_runEnd 28 = .ok (.getfield 46, 3) := by decide +kernel
theorem dX8_runEnd_31 : decode cX8_runEnd 31 = .ok (.if_icmp .ge 43, 3) := by decide +kernel
theorem dX8_runEnd_34 : decode cX8_runEnd 34 = .ok (.iload_n 2, 1) := by decide +kernel
theorem dX8_runEnd_35 : decode cX8_runEnd 35 = .ok (.ifCond .eq 16, 3) := by decide +kernel
theorem dX8_runEnd_38 : decode cX8_runEnd 38 = .ok (.aload_n 0, 1) := by decide +kernel
theorem dX8_runEnd_39 : decode cX8_runEnd 39 = .ok (.getfield 55, 3) := by decide +kernel
theorem dX8_runEnd_42 : decode cX8_runEnd 42 = .ok (.iload 4, 2) := by decide +kernel
theorem dX8_runEnd_44 : decode cX8_runEnd 44 = .ok (.iaload, 1) := by decide +kernel
theorem dX8_runEnd_45 : decode cX8_runEnd 45 = .ok (.invokestatic 72, 3) := by decide +kernel
theorem dX8_runEnd_48 : decode cX8_runEnd 48 = .ok (.ifCond .ne 20, 3) := by decide +kernel
theorem dX8_runEnd_51 : decode cX8_runEnd 51 = .ok (.iload_n 3, 1) := by decide +kernel
theorem dX8_runEnd_52 : decode cX8_runEnd 52 = .ok (.ifCond .eq 22, 3) := by decide +kernel
theorem dX8_runEnd_55 : decode cX8_runEnd 55 = .ok (.aload_n 0, 1) := by decide +kernel
theorem dX8_runEnd_56 : decode cX8_runEnd 56 = .ok (.getfield 55, 3) := by decide +kernel
theorem dX8_runEnd_59 : decode cX8_runEnd 59 = .ok (.iload 4, 2) := by decide +kernel
theorem dX8_runEnd_61 : decode cX8_runEnd 61 = .ok (.iaload, 1) := by decide +kernel
theorem dX8_runEnd_62 : decode cX8_runEnd 62 = .ok (.invokestatic 75, 3) := by decide +kernel
theorem dX8_runEnd_65 : decode cX8_runEnd 65 = .ok (.ifCond .eq 9, 3) := by decide +kernel
theorem dX8_runEnd_68 : decode cX8_runEnd 68 = .ok (.iinc 4 1, 3) := by decide +kernel
theorem dX8_runEnd_71 : decode cX8_runEnd 71 = .ok (.goto (-46), 3) := by decide +kernel
theorem dX8_runEnd_74 : decode cX8_runEnd 74 = .ok (.iload 4, 2) := by decide +kernel
theorem dX8_runEnd_76 : decode cX8_runEnd 76 = .ok (.ireturn, 1) := by decide +kernel
theorem dX8_tokenOf_0 : decode cX8_tokenOf 0 = .ok (.aload_n 0, 1) := by decide +kernel
theorem dX8_tokenOf_1 : decode cX8_tokenOf 1 = .ok (.getfield 55, 3) := by decide +kernel
theorem dX8_tokenOf_4 : decode cX8_tokenOf 4 = .ok (.iload_n 1, 1) := by decide +kernel
theorem dX8_tokenOf_5 : decode cX8_tokenOf 5 = .ok (.iaload, 1) := by decide +kernel
theorem dX8_tokenOf_6 : decode cX8_tokenOf 6 = .ok (.istore_n 3, 1) := by decide +kernel
theorem dX8_tokenOf_7 : decode cX8_tokenOf 7 = .ok (.iload_n 3, 1) := by decide +kernel
theorem dX8_tokenOf_8 : decode cX8_tokenOf 8 = .ok (.invokestatic 72, 3) := by decide +kernel
theorem dX8_tokenOf_11 : decode cX8_tokenOf 11 = .ok (.ifCond .eq 10, 3) := by decide +kernel
theorem dX8_tokenOf_14 : decode cX8_tokenOf 14 = .ok (.aload_n 0, 1) := by decide +kernel
theorem dX8_tokenOf_15 : decode cX8_tokenOf 15 = .ok (.iload_n 1, 1) := by decide +kernel
theorem dX8_tokenOf_16 : decode cX8_tokenOf 16 = .ok (.iload_n 2, 1) := by decide +kernel
theorem dX8_tokenOf_17 : decode cX8_tokenOf 17 = .ok (.invokestatic 78, 3) := by decide +kernel
theorem dX8_tokenOf_20 : decode cX8_tokenOf 20 = .ok (.ireturn, 1) := by decide +kernel
theorem dX8_tokenOf_21 : decode cX8_tokenOf 21 = .ok (.iload_n 3, 1) := by decide +kernel
theorem dX8_tokenOf_22 : decode cX8_tokenOf 22 = .ok (.invokestatic 75, 3) := by decide +kernel
theorem dX8_tokenOf_25 : decode cX8_tokenOf 25 = .ok (.ifCond .eq 10, 3) := by decide +kernel
theorem dX8_tokenOf_28 : decode cX8_tokenOf 28 = .ok (.aload_n 0, 1) := by decide +kernel
theorem dX8_tokenOf_29 : decode cX8_tokenOf 29 = .ok (.iload_n 1, 1) := by decide +kernel
theorem dX8_tokenOf_30 : decode cX8_tokenOf 30 = .ok (.iload_n 2, 1) := by decide +kernel
theorem dX8_tokenOf_31 : decode cX8_tokenOf 31 = .ok (.invokestatic 81, 3) := by decide +kernel
theorem dX8_tokenOf_34 : decode cX8_tokenOf 34 = .ok (.ireturn, 1) := by decide +kernel
theorem dX8_tokenOf_35 : decode cX8_tokenOf 35 = .ok (.ldc 84, 2) := by decide +kernel
theorem dX8_tokenOf_37 : decode cX8_tokenOf 37 = .ok (.iload_n 3, 1) := by decide +kernel
theorem dX8_tokenOf_38 : decode cX8_tokenOf 38 = .ok (.i2c, 1) := by decide +kernel
theorem dX8_tokenOf_39 : decode cX8_tokenOf 39 = .ok (.invokevirtual 86, 3) := by decide +kernel
theorem dX8_tokenOf_42 : decode cX8_tokenOf 42 = .ok (.istore 4, 2) := by decide +kernel
theorem dX8_tokenOf_44 : decode cX8_tokenOf 44 = .ok (.iload 4, 2) := by decide +kernel
theorem dX8_tokenOf_46 : decode cX8_tokenOf 46 = .ok (.ifCond .ge 9, 3) := by decide +kernel
theorem dX8_tokenOf_49 : decode cX8_tokenOf 49 = .ok (.sipush 10201, 3) := by decide +kernel
theorem dX8_tokenOf_52 : decode cX8_tokenOf 52 = .ok (.goto 9, 3) := by decide +kernel
theorem dX8_tokenOf_55 : decode cX8_tokenOf 55 = .ok (.sipush 10100, 3) := by decide +kernel
theorem dX8_tokenOf_58 : decode cX8_tokenOf 58 = .ok (.iload 4, 2) := by decide +kernel
theorem dX8_tokenOf_60 : decode cX8_tokenOf 60 = .ok (.iadd, 1) := by decide +kernel
theorem dX8_tokenOf_61 : decode cX8_tokenOf 61 = .ok (.ireturn, 1) := by decide +kernel
theorem dX8_numberOf_0 : decode cX8_numberOf 0 = .ok (.iload_n 2, 1) := by decide +kernel
theorem dX8_numberOf_1 : decode cX8_numberOf 1 = .ok (.iload_n 1, 1) := by decide +kernel
theorem dX8_numberOf_2 : decode cX8_numberOf 2 = .ok (.isub, 1) := by decide +kernel
theorem dX8_numberOf_3 : decode cX8_numberOf 3 = .ok (.iconst 4, 1) := by decide +kernel
theorem dX8_numberOf_4 : decode cX8_numberOf 4 = .ok (.if_icmp .le 7, 3) := by decide +kernel
theorem dX8_numberOf_7 : decode cX8_numberOf 7 = .ok (.sipush 10201, 3) := by decide +kernel
theorem dX8_numberOf_10 : decode cX8_numberOf 10 = .ok (.ireturn, 1) := by decide +kernel
theorem dX8_numberOf_11 : decode cX8_numberOf 11 = .ok (.iconst 0, 1) := by decide +kernel
theorem dX8_numberOf_12 : decode cX8_numberOf 12 = .ok (.istore_n 3, 1) := by decide +kernel
theorem dX8_numberOf_13 : decode cX8_numberOf 13 = .ok (.iload_n 1, 1) := by decide +kernel
theorem dX8_numberOf_14 : decode cX8_numberOf 14 = .ok (.istore 4, 2) := by decide +kernel
theorem dX8_numberOf_16 : decode cX8_numberOf 16 = .ok (.iload 4, 2) := by decide +kernel
theorem dX8_numberOf_18 : decode cX8_numberOf 18 = .ok (.iload_n 2, 1) := by decide +kernel
theorem dX8_numberOf_19 : decode cX8_numberOf 19 = .ok (.if_icmp .ge 25, 3) := by decide +kernel
theorem dX8_numberOf_22 : decode cX8_numberOf 22 = .ok (.bipush 10, 2) := by decide +kernel
theorem dX8_numberOf_24 : decode cX8_numberOf 24 = .ok (.iload_n 3, 1) := by decide +kernel
theorem dX8_numberOf_25 : decode cX8_numberOf 25 = .ok (.imul, 1) := by decide +kernel
theorem dX8_numberOf_26 : decode cX8_numberOf 26 = .ok (.aload_n 0, 1) := by decide +kernel
theorem dX8_numberOf_27 : decode cX8_numberOf 27 = .ok (.getfield 55, 3) := by decide +kernel
theorem dX8_numberOf_30 : decode cX8_numberOf 30 = .ok (.iload 4, 2) := by decide +kernel
theorem dX8_numberOf_32 : decode cX8_numberOf 32 = .ok (.iaload, 1) := by decide +kernel
theorem dX8_numberOf_33 : decode cX8_numberOf 33 = .ok (.iadd, 1) := by decide +kernel
theorem dX8_numberOf_34 : decode cX8_numberOf 34 = .ok (.bipush 48, 2) := by decide +kernel
theorem dX8_numberOf_36 : decode cX8_numberOf 36 = .ok (.isub, 1) := by decide +kernel
theorem dX8_numberOf_37 : decode cX8_numberOf 37 = .ok (.istore_n 3, 1) := by decide +kernel
theorem dX8_numberOf_38 : decode cX8_numberOf 38 = .ok (.iinc 4 1, 3) := by decide +kernel
theorem dX8_numberOf_41 : decode cX8_numberOf 41 = .ok (.goto (-25), 3) := by decide +kernel
theorem dX8_numberOf_44 : decode cX8_numberOf 44 = .ok (.iload_n 3, 1) := by decide +kernel
theorem dX8_numberOf_45 : decode cX8_numberOf 45 = .ok (.ireturn, 1) := by decide +kernel
theorem dX8_wordOf_0 : decode cX8_wordOf 0 = .ok (.sipush 10000, 3) := by decide +kernel
theorem dX8_wordOf_3 : decode cX8_wordOf 3 = .ok (.istore_n 3, 1) := by decide +kernel
theorem dX8_wordOf_4 : decode cX8_wordOf 4 = .ok (.iconst 0, 1) := by decide +kernel
theorem dX8_wordOf_5 : decode cX8_wordOf 5 = .ok (.istore 4, 2) := by decide +kernel
theorem dX8_wordOf_7 : decode cX8_wordOf 7 = .ok (.iconst 0, 1) := by decide +kernel
theorem dX8_wordOf_8 : decode cX8_wordOf 8 = .ok (.istore 5, 2) := by decide +kernel
theorem dX8_wordOf_10 : decode cX8_wordOf 10 = .ok (.iload 5, 2) := by decide +kernel
theorem dX8_wordOf_12 : decode cX8_wordOf 12 = .ok (.ldc 92, 2) := by decide +kernel
theorem dX8_wordOf_14 : decode cX8_wordOf 14 = .ok (.invokevirtual 94, 3) := by decide +kernel
theorem dX8_wordOf_17 : decode cX8_wordOf 17 = .ok (.if_icmp .ge 55, 3) := by decide +kernel
theorem dX8_wordOf_20 : decode cX8_wordOf 20 = .ok (.ldc 92, 2) := by decide +kernel
theorem dX8_wordOf_22 : decode cX8_wordOf 22 = .ok (.iload 5, 2) := by decide +kernel
theorem dX8_wordOf_24 : decode cX8_wordOf 24 = .ok (.invokevirtual 97, 3) := by decide +kernel
theorem dX8_wordOf_27 : decode cX8_wordOf 27 = .ok (.bipush 32, 2) := by decide +kernel
theorem dX8_wordOf_29 : decode cX8_wordOf 29 = .ok (.if_icmp .ne 37, 3) := by decide +kernel
theorem dX8_wordOf_32 : decode cX8_wordOf 32 = .ok (.iload 5, 2) := by decide +kernel
theorem dX8_wordOf_34 : decode cX8_wordOf 34 = .ok (.iload 4, 2) := by decide +kernel
theorem dX8_wordOf_36 : decode cX8_wordOf 36 = .ok (.isub, 1) := by decide +kernel
theorem dX8_wordOf_37 : decode cX8_wordOf 37 = .ok (.iload_n 2, 1) := by decide +kernel
theorem dX8_wordOf_38 : decode cX8_wordOf 38 = .ok (.iload_n 1, 1) := by decide +kernel
theorem dX8_wordOf_39 : decode cX8_wordOf 39 = .ok (.isub, 1) := by decide +kernel
theorem dX8_wordOf_40 : decode cX8_wordOf 40 = .ok (.if_icmp .ne 17, 3) := by decide +kernel
theorem dX8_wordOf_43 : decode cX8_wordOf 43 = .ok (.aload_n 0, 1) := by decide +kernel
theorem dX8_wordOf_44 : decode cX8_wordOf 44 = .ok (.iload_n 1, 1) := by decide +kernel
theorem dX8_wordOf_45 : decode cX8_wordOf 45 = .ok (.iload 4, 2) := by decide +kernel
theorem dX8_wordOf_47 : decode cX8_wordOf 47 = .ok (.iload 5, 2) := by decide +kernel
theorem dX8_wordOf_49 : decode cX8_wordOf 49 = .ok (.invokestatic 101, 3) := by decide +kernel
theorem dX8_wordOf_52 : decode cX8_wordOf 52 = .ok (.ifCond .eq 5, 3) := by decide +kernel
theorem dX8_wordOf_55 : decode cX8_wordOf 55 = .ok (.iload_n 3, 1) := by decide +kernel
theorem dX8_wordOf_56 : decode cX8_wordOf 56 = .ok (.ireturn, 1) := by decide +kernel
theorem dX8_wordOf_57 : decode cX8_wordOf 57 = .ok (.iinc 3 1, 3) := by decide +kernel
theorem dX8_wordOf_60 : decode cX8_wordOf 60 = .ok (.iload 5, 2) := by decide +kernel
theorem dX8_wordOf_62 : decode cX8_wordOf 62 = .ok (.iconst 1, 1) := by decide +kernel
theorem dX8_wordOf_63 : decode cX8_wordOf 63 = .ok (.iadd, 1) := by decide +kernel
theorem dX8_wordOf_64 : decode cX8_wordOf 64 = .ok (.istore 4, 2) := by decide +kernel
theorem dX8_wordOf_66 : decode cX8_wordOf 66 = .ok (.iinc 5 1, 3) := by decide +kernel
theorem dX8_wordOf_69 : decode cX8_wordOf 69 = .ok (.goto (-59), 3) := by decide +kernel
theorem dX8_wordOf_72 : decode cX8_wordOf 72 = .ok (.sipush 10201, 3) := by decide +kernel
theorem dX8_wordOf_75 : decode cX8_wordOf 75 = .ok (.ireturn, 1) := by decide +kernel
theorem dX8_isSame_0 : decode cX8_isSame 0 = .ok (.iload_n 2, 1) := by decide +kernel
theorem dX8_isSame_1 : decode cX8_isSame 1 = .ok (.istore 4, 2) := by decide +kernel
theorem dX8_isSame_3 : decode cX8_isSame 3 = .ok (.iload 4, 2) := by decide +kernel
theorem dX8_isSame_5 : decode cX8_isSame 5 = .ok (.iload_n 3, 1) := by decide +kernel
theorem dX8_isSame_6 : decode cX8_isSame 6 = .ok (.if_icmp .ge 32, 3) := by decide +kernel
theorem dX8_isSame_9 : decode cX8_isSame 9 = .ok (.aload_n 0, 1) := by decide +kernel
theorem dX8_isSame_10 : decode cX8_isSame 10 = .ok (.getfield 55, 3) := by decide +kernel
theorem dX8_isSame_13 : decode cX8_isSame 13 = .ok (.iload_n 1, 1) := by decide +kernel
theorem dX8_isSame_14 : decode cX8_isSame 14 = .ok (.iload 4, 2) := by decide +kernel
theorem dX8_isSame_16 : decode cX8_isSame 16 = .ok (.iadd, 1) := by decide +kernel
theorem dX8_isSame_17 : decode cX8_isSame 17 = .ok (.iload_n 2, 1) := by decide +kernel
theorem dX8_isSame_18 : decode cX8_isSame 18 = .ok (.isub, 1) := by decide +kernel
theorem dX8_isSame_19 : decode cX8_isSame 19 = .ok (.iaload, 1) := by decide +kernel
theorem dX8_isSame_20 : decode cX8_isSame 20 = .ok (.ldc 92, 2) := by decide +kernel
theorem dX8_isSame_22 : decode cX8_isSame 22 = .ok (.iload 4, 2) := by decide +kernel
theorem dX8_isSame_24 : decode cX8_isSame 24 = .ok (.invokevirtual 97, 3) := by decide +kernel
theorem dX8_isSame_27 : decode cX8_isSame 27 = .ok (.if_icmp .eq 5, 3) := by decide +kernel
theorem dX8_isSame_30 : decode cX8_isSame 30 = .ok (.iconst 0, 1) := by decide +kernel
theorem dX8_isSame_31 : decode cX8_isSame 31 = .ok (.ireturn, 1) := by decide +kernel
theorem dX8_isSame_32 : decode cX8_isSame 32 = .ok (.iinc 4 1, 3) := by decide +kernel
theorem dX8_isSame_35 : decode cX8_isSame 35 = .ok (.goto (-32), 3) := by decide +kernel
theorem dX8_isSame_38 : decode cX8_isSame 38 = .ok (.iconst 1, 1) := by decide +kernel
theorem dX8_isSame_39 : decode cX8_isSame 39 = .ok (.ireturn, 1) := by decide +kernel
