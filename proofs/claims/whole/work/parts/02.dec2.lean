theorem dX12_letters_76 : decode cX12_letters 76 = .ok (.bipush 6, 2) := by decide +kernel
theorem dX12_letters_78 : decode cX12_letters 78 = .ok (.if_icmp .ge 7, 3) := by decide +kernel
theorem dX12_letters_81 : decode cX12_letters 81 = .ok (.iconst 1, 1) := by decide +kernel
theorem dX12_letters_82 : decode cX12_letters 82 = .ok (.goto 4, 3) := by decide +kernel
theorem dX12_letters_85 : decode cX12_letters 85 = .ok (.iconst 0, 1) := by decide +kernel
theorem dX12_letters_86 : decode cX12_letters 86 = .ok (.iastore, 1) := by decide +kernel
theorem dX12_letters_87 : decode cX12_letters 87 = .ok (.iinc 2 1, 3) := by decide +kernel
theorem dX12_letters_90 : decode cX12_letters 90 = .ok (.goto (-31), 3) := by decide +kernel
theorem dX12_letters_93 : decode cX12_letters 93 = .ok (.iconst 0, 1) := by decide +kernel
theorem dX12_letters_94 : decode cX12_letters 94 = .ok (.istore_n 2, 1) := by decide +kernel
theorem dX12_letters_95 : decode cX12_letters 95 = .ok (.iload_n 2, 1) := by decide +kernel
theorem dX12_letters_96 : decode cX12_letters 96 = .ok (.bipush 6, 2) := by decide +kernel
theorem dX12_letters_98 : decode cX12_letters 98 = .ok (.if_icmp .ge 51, 3) := by decide +kernel
theorem dX12_letters_101 : decode cX12_letters 101 = .ok (.aload_n 0, 1) := by decide +kernel
theorem dX12_letters_102 : decode cX12_letters 102 = .ok (.getfield 35, 3) := by decide +kernel
theorem dX12_letters_105 : decode cX12_letters 105 = .ok (.iload_n 2, 1) := by decide +kernel
theorem dX12_letters_106 : decode cX12_letters 106 = .ok (.iconst 0, 1) := by decide +kernel
theorem dX12_letters_107 : decode cX12_letters 107 = .ok (.iastore, 1) := by decide +kernel
theorem dX12_letters_108 : decode cX12_letters 108 = .ok (.aload_n 0, 1) := by decide +kernel
theorem dX12_letters_109 : decode cX12_letters 109 = .ok (.getfield 38, 3) := by decide +kernel
theorem dX12_letters_112 : decode cX12_letters 112 = .ok (.iload_n 2, 1) := by decide +kernel
theorem dX12_letters_113 : decode cX12_letters 113 = .ok (.iconst 0, 1) := by decide +kernel
theorem dX12_letters_114 : decode cX12_letters 114 = .ok (.iastore, 1) := by decide +kernel
theorem dX12_letters_115 : decode cX12_letters 115 = .ok (.aload_n 0, 1) := by decide +kernel
theorem dX12_letters_116 : decode cX12_letters 116 = .ok (.getfield 41, 3) := by decide +kernel
theorem dX12_letters_119 : decode cX12_letters 119 = .ok (.iload_n 2, 1) := by decide +kernel
theorem dX12_letters_120 : decode cX12_letters 120 = .ok (.iconst 0, 1) := by decide +kernel
theorem dX12_letters_121 : decode cX12_letters 121 = .ok (.iastore, 1) := by decide +kernel
theorem dX12_letters_122 : decode cX12_letters 122 = .ok (.aload_n 0, 1) := by decide +kernel
theorem dX12_letters_123 : decode cX12_letters 123 = .ok (.getfield 44, 3) := by decide +kernel
theorem dX12_letters_126 : decode cX12_letters 126 = .ok (.iload_n 2, 1) := by decide +kernel
theorem dX12_letters_127 : decode cX12_letters 127 = .ok (.iconst 0, 1) := by decide +kernel
theorem dX12_letters_128 : decode cX12_letters 128 = .ok (.iastore, 1) := by decide +kernel
theorem dX12_letters_129 : decode cX12_letters 129 = .ok (.aload_n 0, 1) := by decide +kernel
theorem dX12_letters_130 : decode cX12_letters 130 = .ok (.getfield 47, 3) := by decide +kernel
theorem dX12_letters_133 : decode cX12_letters 133 = .ok (.iload_n 2, 1) := by decide +kernel
theorem dX12_letters_134 : decode cX12_letters 134 = .ok (.iconst 0, 1) := by decide +kernel
theorem dX12_letters_135 : decode cX12_letters 135 = .ok (.iastore, 1) := by decide +kernel
theorem dX12_letters_136 : decode cX12_letters 136 = .ok (.aload_n 0, 1) := by decide +kernel
theorem dX12_letters_137 : decode cX12_letters 137 = .ok (.getfield 50, 3) := by decide +kernel
theorem dX12_letters_140 : decode cX12_letters 140 = .ok (.iload_n 2, 1) := by decide +kernel
theorem dX12_letters_141 : decode cX12_letters 141 = .ok (.iconst 0, 1) := by decide +kernel
theorem dX12_letters_142 : decode cX12_letters 142 = .ok (.iastore, 1) := by decide +kernel
theorem dX12_letters_143 : decode cX12_letters 143 = .ok (.iinc 2 1, 3) := by decide +kernel
theorem dX12_letters_146 : decode cX12_letters 146 = .ok (.goto (-51), 3) := by decide +kernel
theorem dX12_letters_149 : decode cX12_letters 149 = .ok (.iconst 1, 1) := by decide +kernel
theorem dX12_letters_150 : decode cX12_letters 150 = .ok (.ireturn, 1) := by decide +kernel
theorem dX12_person_0 : decode cX12_person 0 = .ok (.aload_n 0, 1) := by decide +kernel
theorem dX12_person_1 : decode cX12_person 1 = .ok (.iconst 0, 1) := by decide +kernel
theorem dX12_person_2 : decode cX12_person 2 = .ok (.putfield 146, 3) := by decide +kernel
theorem dX12_person_5 : decode cX12_person 5 = .ok (.aload_n 0, 1) := by decide +kernel
theorem dX12_person_6 : decode cX12_person 6 = .ok (.invokevirtual 183, 3) := by decide +kernel
theorem dX12_person_9 : decode cX12_person 9 = .ok (.istore 4, 2) := by decide +kernel
theorem dX12_person_11 : decode cX12_person 11 = .ok (.iload 4, 2) := by decide +kernel
theorem dX12_person_13 : decode cX12_person 13 = .ok (.ifCond .eq 45, 3) := by decide +kernel
theorem dX12_person_16 : decode cX12_person 16 = .ok (.aload_n 0, 1) := by decide +kernel
theorem dX12_person_17 : decode cX12_person 17 = .ok (.iload_n 1, 1) := by decide +kernel
theorem dX12_person_18 : decode cX12_person 18 = .ok (.iconst 0, 1) := by decide +kernel
theorem dX12_person_19 : decode cX12_person 19 = .ok (.iconst 1, 1) := by decide +kernel
theorem dX12_person_20 : decode cX12_person 20 = .ok (.invokevirtual 160, 3) := by decide +kernel
theorem dX12_person_23 : decode cX12_person 23 = .ok (.ifCond .eq 35, 3) := by decide +kernel
theorem dX12_person_26 : decode cX12_person 26 = .ok (.aload_n 0, 1) := by decide +kernel
theorem dX12_person_27 : decode cX12_person 27 = .ok (.iload_n 2, 1) := by decide +kernel
theorem dX12_person_28 : decode cX12_person 28 = .ok (.iconst 0, 1) := by decide +kernel
theorem dX12_person_29 : decode cX12_person 29 = .ok (.bipush 99, 2) := by decide +kernel
theorem dX12_person_31 : decode cX12_person 31 = .ok (.invokevirtual 160, 3) := by decide +kernel
theorem dX12_person_34 : decode cX12_person 34 = .ok (.ifCond .eq 24, 3) := by decide +kernel
theorem dX12_person_37 : decode cX12_person 37 = .ok (.aload_n 0, 1) := by decide +kernel
theorem dX12_person_38 : decode cX12_person 38 = .ok (.iload_n 3, 1) := by decide +kernel
theorem dX12_person_39 : decode cX12_person 39 = .ok (.iconst 0, 1) := by decide +kernel
theorem dX12_person_40 : decode cX12_person 40 = .ok (.sipush 9999, 3) := by decide +kernel
theorem dX12_person_43 : decode cX12_person 43 = .ok (.invokevirtual 160, 3) := by decide +kernel
theorem dX12_person_46 : decode cX12_person 46 = .ok (.ifCond .eq 12, 3) := by decide +kernel
theorem dX12_person_49 : decode cX12_person 49 = .ok (.aload_n 0, 1) := by decide +kernel
theorem dX12_person_50 : decode cX12_person 50 = .ok (.getfield 154, 3) := by decide +kernel
theorem dX12_person_53 : decode cX12_person 53 = .ok (.bipush 20, 2) := by decide +kernel
theorem dX12_person_55 : decode cX12_person 55 = .ok (.if_icmp .ne 5, 3) := by decide +kernel
theorem dX12_person_58 : decode cX12_person 58 = .ok (.iconst (-1), 1) := by decide +kernel
theorem dX12_person_59 : decode cX12_person 59 = .ok (.ireturn, 1) := by decide +kernel
theorem dX12_person_60 : decode cX12_person 60 = .ok (.aload_n 0, 1) := by decide +kernel
theorem dX12_person_61 : decode cX12_person 61 = .ok (.bipush 30, 2) := by decide +kernel
theorem dX12_person_63 : decode cX12_person 63 = .ok (.aload_n 0, 1) := by decide +kernel
theorem dX12_person_64 : decode cX12_person 64 = .ok (.getfield 154, 3) := by decide +kernel
theorem dX12_person_67 : decode cX12_person 67 = .ok (.invokevirtual 187, 3) := by decide +kernel
theorem dX12_person_70 : decode cX12_person 70 = .ok (.aload_n 0, 1) := by decide +kernel
theorem dX12_person_71 : decode cX12_person 71 = .ok (.getfield 16, 3) := by decide +kernel
theorem dX12_person_74 : decode cX12_person 74 = .ok (.aload_n 0, 1) := by decide +kernel
theorem dX12_person_75 : decode cX12_person 75 = .ok (.getfield 154, 3) := by decide +kernel
theorem dX12_person_78 : decode cX12_person 78 = .ok (.iload_n 1, 1) := by decide +kernel
theorem dX12_person_79 : decode cX12_person 79 = .ok (.iastore, 1) := by decide +kernel
theorem dX12_person_80 : decode cX12_person 80 = .ok (.aload_n 0, 1) := by decide +kernel
theorem dX12_person_81 : decode cX12_person 81 = .ok (.getfield 19, 3) := by decide +kernel
theorem dX12_person_84 : decode cX12_person 84 = .ok (.aload_n 0, 1) := by decide +kernel
theorem dX12_person_85 : decode cX12_person 85 = .ok (.getfield 154, 3) := by decide +kernel
theorem dX12_person_88 : decode cX12_person 88 = .ok (.iload_n 2, 1) := by decide +kernel
theorem dX12_person_89 : decode cX12_person 89 = .ok (.iastore, 1) := by decide +kernel
theorem dX12_person_90 : decode cX12_person 90 = .ok (.aload_n 0, 1) := by decide +kernel
theorem dX12_person_91 : decode cX12_person 91 = .ok (.getfield 22, 3) := by decide +kernel
theorem dX12_person_94 : decode cX12_person 94 = .ok (.aload_n 0, 1) := by decide +kernel
theorem dX12_person_95 : decode cX12_person 95 = .ok (.getfield 154, 3) := by decide +kernel
theorem dX12_person_98 : decode cX12_person 98 = .ok (.iload_n 3, 1) := by decide +kernel
theorem dX12_person_99 : decode cX12_person 99 = .ok (.iastore, 1) := by decide +kernel
theorem dX12_person_100 : decode cX12_person 100 = .ok (.aload_n 0, 1) := by decide +kernel
theorem dX12_person_101 : decode cX12_person 101 = .ok (.aload_n 0, 1) := by decide +kernel
theorem dX12_person_102 : decode cX12_person 102 = .ok (.getfield 154, 3) := by decide +kernel
theorem dX12_person_105 : decode cX12_person 105 = .ok (.iconst 1, 1) := by decide +kernel
theorem dX12_person_106 : decode cX12_person 106 = .ok (.iadd, 1) := by decide +kernel
theorem dX12_person_107 : decode cX12_person 107 = .ok (.putfield 154, 3) := by decide +kernel
theorem dX12_person_110 : decode cX12_person 110 = .ok (.aload_n 0, 1) := by decide +kernel
theorem dX12_person_111 : decode cX12_person 111 = .ok (.getfield 154, 3) := by decide +kernel
theorem dX12_person_114 : decode cX12_person 114 = .ok (.iconst 1, 1) := by decide +kernel
theorem dX12_person_115 : decode cX12_person 115 = .ok (.isub, 1) := by decide +kernel
theorem dX12_person_116 : decode cX12_person 116 = .ok (.ireturn, 1) := by decide +kernel
theorem dX12_named_0 : decode cX12_named 0 = .ok (.aload_n 0, 1) := by decide +kernel
theorem dX12_named_1 : decode cX12_named 1 = .ok (.iconst 0, 1) := by decide +kernel
theorem dX12_named_2 : decode cX12_named 2 = .ok (.putfield 146, 3) := by decide +kernel
theorem dX12_named_5 : decode cX12_named 5 = .ok (.aload_n 0, 1) := by decide +kernel
theorem dX12_named_6 : decode cX12_named 6 = .ok (.invokevirtual 183, 3) := by decide +kernel
theorem dX12_named_9 : decode cX12_named 9 = .ok (.istore_n 2, 1) := by decide +kernel
theorem dX12_named_10 : decode cX12_named 10 = .ok (.iload_n 2, 1) := by decide +kernel
theorem dX12_named_11 : decode cX12_named 11 = .ok (.ifCond .eq 11, 3) := by decide +kernel
theorem dX12_named_14 : decode cX12_named 14 = .ok (.aload_n 0, 1) := by decide +kernel
theorem dX12_named_15 : decode cX12_named 15 = .ok (.iload_n 1, 1) := by decide +kernel
theorem dX12_named_16 : decode cX12_named 16 = .ok (.invokevirtual 191, 3) := by decide +kernel
theorem dX12_named_19 : decode cX12_named 19 = .ok (.ifCond .ne 5, 3) := by decide +kernel
theorem dX12_named_22 : decode cX12_named 22 = .ok (.iconst 0, 1) := by decide +kernel
theorem dX12_named_23 : decode cX12_named 23 = .ok (.ireturn, 1) := by decide +kernel
theorem dX12_named_24 : decode cX12_named 24 = .ok (.aload_n 0, 1) := by decide +kernel
theorem dX12_named_25 : decode cX12_named 25 = .ok (.bipush 30, 2) := by decide +kernel
theorem dX12_named_27 : decode cX12_named 27 = .ok (.iload_n 1, 1) := by decide +kernel
theorem dX12_named_28 : decode cX12_named 28 = .ok (.invokevirtual 187, 3) := by decide +kernel
theorem dX12_named_31 : decode cX12_named 31 = .ok (.iconst 1, 1) := by decide +kernel
theorem dX12_named_32 : decode cX12_named 32 = .ok (.ireturn, 1) := by decide +kernel
theorem dX12_alphabet_0 : decode cX12_alphabet 0 = .ok (.aload_n 0, 1) := by decide +kernel
theorem dX12_alphabet_1 : decode cX12_alphabet 1 = .ok (.iconst 0, 1) := by decide +kernel
theorem dX12_alphabet_2 : decode cX12_alphabet 2 = .ok (.putfield 146, 3) := by decide +kernel
theorem dX12_alphabet_5 : decode cX12_alphabet 5 = .ok (.aload_n 0, 1) := by decide +kernel
theorem dX12_alphabet_6 : decode cX12_alphabet 6 = .ok (.invokevirtual 195, 3) := by decide +kernel
theorem dX12_alphabet_9 : decode cX12_alphabet 9 = .ok (.ifCond .ne 5, 3) := by decide +kernel
theorem dX12_alphabet_12 : decode cX12_alphabet 12 = .ok (.iconst 0, 1) := by decide +kernel
theorem dX12_alphabet_13 : decode cX12_alphabet 13 = .ok (.ireturn, 1) := by decide +kernel
theorem dX12_alphabet_14 : decode cX12_alphabet 14 = .ok (.aload_n 0, 1) := by decide +kernel
theorem dX12_alphabet_15 : decode cX12_alphabet 15 = .ok (.bipush 19, 2) := by decide +kernel
theorem dX12_alphabet_17 : decode cX12_alphabet 17 = .ok (.iconst 0, 1) := by decide +kernel
theorem dX12_alphabet_18 : decode cX12_alphabet 18 = .ok (.invokevirtual 198, 3) := by decide +kernel
theorem dX12_alphabet_21 : decode cX12_alphabet 21 = .ok (.iconst 1, 1) := by decide +kernel
theorem dX12_alphabet_22 : decode cX12_alphabet 22 = .ok (.ireturn, 1) := by decide +kernel
theorem dX12_leastOf_0 : decode cX12_leastOf 0 = .ok (.iload_n 1, 1) := by decide +kernel
theorem dX12_leastOf_1 : decode cX12_leastOf 1 = .ok (.iconst 5, 1) := by decide +kernel
theorem dX12_leastOf_2 : decode cX12_leastOf 2 = .ok (.if_icmp .ne 7, 3) := by decide +kernel
theorem dX12_leastOf_5 : decode cX12_leastOf 5 = .ok (.iconst 1, 1) := by decide +kernel
theorem dX12_leastOf_6 : decode cX12_leastOf 6 = .ok (.goto 4, 3) := by decide +kernel
theorem dX12_leastOf_9 : decode cX12_leastOf 9 = .ok (.iconst 0, 1) := by decide +kernel
theorem dX12_leastOf_10 : decode cX12_leastOf 10 = .ok (.ireturn, 1) := by decide +kernel
theorem dX12_mostOf_0 : decode cX12_mostOf 0 = .ok (.iload_n 1, 1) := by decide +kernel
theorem dX12_mostOf_1 : decode cX12_mostOf 1 = .ok (.iconst 2, 1) := by decide +kernel
theorem dX12_mostOf_2 : decode cX12_mostOf 2 = .ok (.if_icmp .lt 9, 3) := by decide +kernel
theorem dX12_mostOf_5 : decode cX12_mostOf 5 = .ok (.iload_n 1, 1) := by decide +kernel
theorem dX12_mostOf_6 : decode cX12_mostOf 6 = .ok (.bipush 6, 2) := by decide +kernel
theorem dX12_mostOf_8 : decode cX12_mostOf 8 = .ok (.if_icmp .ne 7, 3) := by decide +kernel
theorem dX12_mostOf_11 : decode cX12_mostOf 11 = .ok (.iconst 2, 1) := by decide +kernel
theorem dX12_mostOf_12 : decode cX12_mostOf 12 = .ok (.goto 5, 3) := by decide +kernel
theorem dX12_mostOf_15 : decode cX12_mostOf 15 = .ok (.bipush 99, 2) := by decide +kernel
theorem dX12_mostOf_17 : decode cX12_mostOf 17 = .ok (.ireturn, 1) := by decide +kernel
theorem dX12_set_0 : decode cX12_set 0 = .ok (.aload_n 0, 1) := by decide +kernel
theorem dX12_set_1 : decode cX12_set 1 = .ok (.iconst 0, 1) := by decide +kernel
theorem dX12_set_2 : decode cX12_set 2 = .ok (.putfield 146, 3) := by decide +kernel
theorem dX12_set_5 : decode cX12_set 5 = .ok (.aload_n 0, 1) := by decide +kernel
theorem dX12_set_6 : decode cX12_set 6 = .ok (.iload_n 1, 1) := by decide +kernel
theorem dX12_set_7 : decode cX12_set 7 = .ok (.iconst 0, 1) := by decide +kernel
theorem dX12_set_8 : decode cX12_set 8 = .ok (.bipush 6, 2) := by decide +kernel
theorem dX12_set_10 : decode cX12_set 10 = .ok (.invokevirtual 160, 3) := by decide +kernel
theorem dX12_set_13 : decode cX12_set 13 = .ok (.ifCond .eq 21, 3) := by decide +kernel
theorem dX12_set_16 : decode cX12_set 16 = .ok (.aload_n 0, 1) := by decide +kernel
theorem dX12_set_17 : decode cX12_set 17 = .ok (.iload_n 2, 1) := by decide +kernel
theorem dX12_set_18 : decode cX12_set 18 = .ok (.aload_n 0, 1) := by decide +kernel
theorem dX12_set_19 : decode cX12_set 19 = .ok (.iload_n 1, 1) := by decide +kernel
theorem dX12_set_20 : decode cX12_set 20 = .ok (.invokevirtual 201, 3) := by decide +kernel
theorem dX12_set_23 : decode cX12_set 23 = .ok (.aload_n 0, 1) := by decide +kernel
theorem dX12_set_24 : decode cX12_set 24 = .ok (.iload_n 1, 1) := by decide +kernel
theorem dX12_set_25 : decode cX12_set 25 = .ok (.invokevirtual 205, 3) := by decide +kernel
theorem dX12_set_28 : decode cX12_set 28 = .ok (.invokevirtual 160, 3) := by decide +kernel
theorem dX12_set_31 : decode cX12_set 31 = .ok (.ifCond .ne 5, 3) := by decide +kernel
theorem dX12_set_34 : decode cX12_set 34 = .ok (.iconst 0, 1) := by decide +kernel
theorem dX12_set_35 : decode cX12_set 35 = .ok (.ireturn, 1) := by decide +kernel
theorem dX12_set_36 : decode cX12_set 36 = .ok (.aload_n 0, 1) := by decide +kernel
theorem dX12_set_37 : decode cX12_set 37 = .ok (.getfield 32, 3) := by decide +kernel
theorem dX12_set_40 : decode cX12_set 40 = .ok (.iload_n 1, 1) := by decide +kernel
theorem dX12_set_41 : decode cX12_set 41 = .ok (.iload_n 2, 1) := by decide +kernel
theorem dX12_set_42 : decode cX12_set 42 = .ok (.iastore, 1) := by decide +kernel
theorem dX12_set_43 : decode cX12_set 43 = .ok (.iconst 1, 1) := by decide +kernel
theorem dX12_set_44 : decode cX12_set 44 = .ok (.ireturn, 1) := by decide +kernel
theorem dX12_site_0 : decode cX12_site 0 = .ok (.aload_n 0, 1) := by decide +kernel
theorem dX12_site_1 : decode cX12_site 1 = .ok (.iconst 0, 1) := by decide +kernel
theorem dX12_site_2 : decode cX12_site 2 = .ok (.putfield 146, 3) := by decide +kernel
theorem dX12_site_5 : decode cX12_site 5 = .ok (.aload_n 0, 1) := by decide +kernel
theorem dX12_site_6 : decode cX12_site 6 = .ok (.iload_n 1, 1) := by decide +kernel
theorem dX12_site_7 : decode cX12_site 7 = .ok (.iconst 0, 1) := by decide +kernel
theorem dX12_site_8 : decode cX12_site 8 = .ok (.iconst 5, 1) := by decide +kernel
theorem dX12_site_9 : decode cX12_site 9 = .ok (.invokevirtual 160, 3) := by decide +kernel
theorem dX12_site_12 : decode cX12_site 12 = .ok (.ifCond .eq 49, 3) := by decide +kernel
theorem dX12_site_15 : decode cX12_site 15 = .ok (.aload_n 0, 1) := by decide +kernel
theorem dX12_site_16 : decode cX12_site 16 = .ok (.iload_n 2, 1) := by decide +kernel
theorem dX12_site_17 : decode cX12_site 17 = .ok (.iconst 0, 1) := by decide +kernel
theorem dX12_site_18 : decode cX12_site 18 = .ok (.iconst 1, 1) := by decide +kernel
theorem dX12_site_19 : decode cX12_site 19 = .ok (.invokevirtual 160, 3) := by decide +kernel
theorem dX12_site_22 : decode cX12_site 22 = .ok (.ifCond .eq 39, 3) := by decide +kernel
theorem dX12_site_25 : decode cX12_site 25 = .ok (.aload_n 0, 1) := by decide +kernel
theorem dX12_site_26 : decode cX12_site 26 = .ok (.iload_n 3, 1) := by decide +kernel
theorem dX12_site_27 : decode cX12_site 27 = .ok (.bipush (-99), 2) := by decide +kernel
theorem dX12_site_29 : decode cX12_site 29 = .ok (.bipush 99, 2) := by decide +kernel
theorem dX12_site_31 : decode cX12_site 31 = .ok (.invokevirtual 160, 3) := by decide +kernel
theorem dX12_site_34 : decode cX12_site 34 = .ok (.ifCond .eq 27, 3) := by decide +kernel
theorem dX12_site_37 : decode cX12_site 37 = .ok (.aload_n 0, 1) := by decide +kernel
theorem dX12_site_38 : decode cX12_site 38 = .ok (.iload 4, 2) := by decide +kernel
theorem dX12_site_40 : decode cX12_site 40 = .ok (.iconst 0, 1) := by decide +kernel
theorem dX12_site_41 : decode cX12_site 41 = .ok (.bipush 99, 2) := by decide +kernel
theorem dX12_site_43 : decode cX12_site 43 = .ok (.invokevirtual 160, 3) := by decide +kernel
theorem dX12_site_46 : decode cX12_site 46 = .ok (.ifCond .eq 15, 3) := by decide +kernel
theorem dX12_site_49 : decode cX12_site 49 = .ok (.aload_n 0, 1) := by decide +kernel
theorem dX12_site_50 : decode cX12_site 50 = .ok (.iload 5, 2) := by decide +kernel
theorem dX12_site_52 : decode cX12_site 52 = .ok (.iconst 0, 1) := by decide +kernel
theorem dX12_site_53 : decode cX12_site 53 = .ok (.bipush 20, 2) := by decide +kernel
theorem dX12_site_55 : decode cX12_site 55 = .ok (.invokevirtual 160, 3) := by decide +kernel
theorem dX12_site_58 : decode cX12_site 58 = .ok (.ifCond .ne 5, 3) := by decide +kernel
theorem dX12_site_61 : decode cX12_site 61 = .ok (.iconst 0, 1) := by decide +kernel
theorem dX12_site_62 : decode cX12_site 62 = .ok (.ireturn, 1) := by decide +kernel
theorem dX12_site_63 : decode cX12_site 63 = .ok (.aload_n 0, 1) := by decide +kernel
theorem dX12_site_64 : decode cX12_site 64 = .ok (.getfield 35, 3) := by decide +kernel
theorem dX12_site_67 : decode cX12_site 67 = .ok (.iload_n 1, 1) := by decide +kernel
theorem dX12_site_68 : decode cX12_site 68 = .ok (.iload_n 2, 1) := by decide +kernel
theorem dX12_site_69 : decode cX12_site 69 = .ok (.iastore, 1) := by decide +kernel
theorem dX12_site_70 : decode cX12_site 70 = .ok (.aload_n 0, 1) := by decide +kernel
theorem dX12_site_71 : decode cX12_site 71 = .ok (.getfield 38, 3) := by decide +kernel
theorem dX12_site_74 : decode cX12_site 74 = .ok (.iload_n 1, 1) := by decide +kernel
theorem dX12_site_75 : decode cX12_site 75 = .ok (.iload_n 3, 1) := by decide +kernel
theorem dX12_site_76 : decode cX12_site 76 = .ok (.iastore, 1) := by decide +kernel
theorem dX12_site_77 : decode cX12_site 77 = .ok (.aload_n 0, 1) := by decide +kernel
theorem dX12_site_78 : decode cX12_site 78 = .ok (.getfield 41, 3) := by decide +kernel
theorem dX12_site_81 : decode cX12_site 81 = .ok (.iload_n 1, 1) := by decide +kernel
theorem dX12_site_82 : decode cX12_site 82 = .ok (.iload 4, 2) := by decide +kernel
theorem dX12_site_84 : decode cX12_site 84 = .ok (.iastore, 1) := by decide +kernel
theorem dX12_site_85 : decode cX12_site 85 = .ok (.aload_n 0, 1) := by decide +kernel
theorem dX12_site_86 : decode cX12_site 86 = .ok (.getfield 44, 3) := by decide +kernel
theorem dX12_site_89 : decode cX12_site 89 = .ok (.iload_n 1, 1) := by decide +kernel
theorem dX12_site_90 : decode cX12_site 90 = .ok (.iload 5, 2) := by decide +kernel
theorem dX12_site_92 : decode cX12_site 92 = .ok (.iastore, 1) := by decide +kernel
theorem dX12_site_93 : decode cX12_site 93 = .ok (.iconst 1, 1) := by decide +kernel
theorem dX12_site_94 : decode cX12_site 94 = .ok (.ireturn, 1) := by decide +kernel
theorem dX12_chance_0 : decode cX12_chance 0 = .ok (.aload_n 0, 1) := by decide +kernel
theorem dX12_chance_1 : decode cX12_chance 1 = .ok (.iconst 0, 1) := by decide +kernel
theorem dX12_chance_2 : decode cX12_chance 2 = .ok (.putfield 146, 3) := by decide +kernel
theorem dX12_chance_5 : decode cX12_chance 5 = .ok (.aload_n 0, 1) := by decide +kernel
theorem dX12_chance_6 : decode cX12_chance 6 = .ok (.invokevirtual 195, 3) := by decide +kernel
theorem dX12_chance_9 : decode cX12_chance 9 = .ok (.istore_n 3, 1) := by decide +kernel
theorem dX12_chance_10 : decode cX12_chance 10 = .ok (.iload_n 3, 1) := by decide +kernel
theorem dX12_chance_11 : decode cX12_chance 11 = .ok (.ifCond .eq 24, 3) := by decide +kernel
theorem dX12_chance_14 : decode cX12_chance 14 = .ok (.aload_n 0, 1) := by decide +kernel
theorem dX12_chance_15 : decode cX12_chance 15 = .ok (.iload_n 1, 1) := by decide +kernel
theorem dX12_chance_16 : decode cX12_chance 16 = .ok (.iconst 0, 1) := by decide +kernel
theorem dX12_chance_17 : decode cX12_chance 17 = .ok (.iconst 5, 1) := by decide +kernel
theorem dX12_chance_18 : decode cX12_chance 18 = .ok (.invokevirtual 160, 3) := by decide +kernel
theorem dX12_chance_21 : decode cX12_chance 21 = .ok (.ifCond .eq 14, 3) := by decide +kernel
theorem dX12_chance_24 : decode cX12_chance 24 = .ok (.aload_n 0, 1) := by decide +kernel
theorem dX12_chance_25 : decode cX12_chance 25 = .ok (.iload_n 2, 1) := by decide +kernel
theorem dX12_chance_26 : decode cX12_chance 26 = .ok (.iconst 0, 1) := by decide +kernel
theorem dX12_chance_27 : decode cX12_chance 27 = .ok (.bipush 99, 2) := by decide +kernel
theorem dX12_chance_29 : decode cX12_chance 29 = .ok (.invokevirtual 160, 3) := by decide +kernel
theorem dX12_chance_32 : decode cX12_chance 32 = .ok (.ifCond .ne 5, 3) := by decide +kernel
theorem dX12_chance_35 : decode cX12_chance 35 = .ok (.iconst 0, 1) := by decide +kernel
theorem dX12_chance_36 : decode cX12_chance 36 = .ok (.ireturn, 1) := by decide +kernel
theorem dX12_chance_37 : decode cX12_chance 37 = .ok (.aload_n 0, 1) := by decide +kernel
theorem dX12_chance_38 : decode cX12_chance 38 = .ok (.bipush 19, 2) := by decide +kernel
theorem dX12_chance_40 : decode cX12_chance 40 = .ok (.iconst 1, 1) := by decide +kernel
theorem dX12_chance_41 : decode cX12_chance 41 = .ok (.iload_n 1, 1) := by decide +kernel
theorem dX12_chance_42 : decode cX12_chance 42 = .ok (.iadd, 1) := by decide +kernel
theorem dX12_chance_43 : decode cX12_chance 43 = .ok (.invokevirtual 198, 3) := by decide +kernel
theorem dX12_chance_46 : decode cX12_chance 46 = .ok (.aload_n 0, 1) := by decide +kernel
theorem dX12_chance_47 : decode cX12_chance 47 = .ok (.getfield 47, 3) := by decide +kernel
theorem dX12_chance_50 : decode cX12_chance 50 = .ok (.iload_n 1, 1) := by decide +kernel
theorem dX12_chance_51 : decode cX12_chance 51 = .ok (.iload_n 2, 1) := by decide +kernel
theorem dX12_chance_52 : decode cX12_chance 52 = .ok (.iastore, 1) := by decide +kernel
theorem dX12_chance_53 : decode cX12_chance 53 = .ok (.aload_n 0, 1) := by decide +kernel
theorem dX12_chance_54 : decode cX12_chance 54 = .ok (.getfield 50, 3) := by decide +kernel
theorem dX12_chance_57 : decode cX12_chance 57 = .ok (.iload_n 1, 1) := by decide +kernel
theorem dX12_chance_58 : decode cX12_chance 58 = .ok (.iconst 1, 1) := by decide +kernel
theorem dX12_chance_59 : decode cX12_chance 59 = .ok (.iastore, 1) := by decide +kernel
theorem dX12_chance_60 : decode cX12_chance 60 = .ok (.iconst 1, 1) := by decide +kernel
theorem dX12_chance_61 : decode cX12_chance 61 = .ok (.ireturn, 1) := by decide +kernel
theorem dX12_types_0 : decode cX12_types 0 = .ok (.bipush 24, 2) := by decide +kernel
theorem dX12_types_2 : decode cX12_types 2 = .ok (.istore_n 2, 1) := by decide +kernel
theorem dX12_types_3 : decode cX12_types 3 = .ok (.iload_n 2, 1) := by decide +kernel
theorem dX12_types_4 : decode cX12_types 4 = .ok (.ifCond .lt 35, 3) := by decide +kernel
theorem dX12_types_7 : decode cX12_types 7 = .ok (.aload_n 0, 1) := by decide +kernel
theorem dX12_types_8 : decode cX12_types 8 = .ok (.getfield 59, 3) := by decide +kernel
theorem dX12_types_11 : decode cX12_types 11 = .ok (.aload_n 0, 1) := by decide +kernel
theorem dX12_types_12 : decode cX12_types 12 = .ok (.getfield 157, 3) := by decide +kernel
theorem dX12_types_15 : decode cX12_types 15 = .ok (.iload_n 1, 1) := by decide +kernel
theorem dX12_types_16 : decode cX12_types 16 = .ok (.iload_n 2, 1) := by decide +kernel
theorem dX12_types_17 : decode cX12_types 17 = .ok (.ishr, 1) := by decide +kernel
theorem dX12_types_18 : decode cX12_types 18 = .ok (.sipush 255, 3) := by decide +kernel
theorem dX12_types_21 : decode cX12_types 21 = .ok (.iand, 1) := by decide +kernel
theorem dX12_types_22 : decode cX12_types 22 = .ok (.iastore, 1) := by decide +kernel
theorem dX12_types_23 : decode cX12_types 23 = .ok (.aload_n 0, 1) := by decide +kernel
theorem dX12_types_24 : decode cX12_types 24 = .ok (.aload_n 0, 1) := by decide +kernel
theorem dX12_types_25 : decode cX12_types 25 = .ok (.getfield 157, 3) := by decide +kernel
theorem dX12_types_28 : decode cX12_types 28 = .ok (.iconst 1, 1) := by decide +kernel
theorem dX12_types_29 : decode cX12_types 29 = .ok (.iadd, 1) := by decide +kernel
theorem dX12_types_30 : decode cX12_types 30 = .ok (.putfield 157, 3) := by decide +kernel
theorem dX12_types_33 : decode cX12_types 33 = .ok (.iinc 2 (-8), 3) := by decide +kernel
theorem dX12_types_36 : decode cX12_types 36 = .ok (.goto (-33), 3) := by decide +kernel
theorem dX12_types_39 : decode cX12_types 39 = .ok (.return_, 1) := by decide +kernel
theorem dX12_feed_0 : decode cX12_feed 0 = .ok (.aload_n 0, 1) := by decide +kernel
theorem dX12_feed_1 : decode cX12_feed 1 = .ok (.iconst 0, 1) := by decide +kernel
theorem dX12_feed_2 : decode cX12_feed 2 = .ok (.putfield 146, 3) := by decide +kernel
theorem dX12_feed_5 : decode cX12_feed 5 = .ok (.aload_n 0, 1) := by decide +kernel
theorem dX12_feed_6 : decode cX12_feed 6 = .ok (.getfield 157, 3) := by decide +kernel
theorem dX12_feed_9 : decode cX12_feed 9 = .ok (.sipush 380, 3) := by decide +kernel
theorem dX12_feed_12 : decode cX12_feed 12 = .ok (.if_icmp .le 5, 3) := by decide +kernel
theorem dX12_feed_15 : decode cX12_feed 15 = .ok (.iconst (-1), 1) := by decide +kernel
theorem dX12_feed_16 : decode cX12_feed 16 = .ok (.ireturn, 1) := by decide +kernel
theorem dX12_feed_17 : decode cX12_feed 17 = .ok (.aload_n 0, 1) := by decide +kernel
theorem dX12_feed_18 : decode cX12_feed 18 = .ok (.iload_n 1, 1) := by decide +kernel
theorem dX12_feed_19 : decode cX12_feed 19 = .ok (.invokevirtual 208, 3) := by decide +kernel
theorem dX12_feed_22 : decode cX12_feed 22 = .ok (.aload_n 0, 1) := by decide +kernel
theorem dX12_feed_23 : decode cX12_feed 23 = .ok (.iload_n 2, 1) := by decide +kernel
theorem dX12_feed_24 : decode cX12_feed 24 = .ok (.invokevirtual 208, 3) := by decide +kernel
theorem dX12_feed_27 : decode cX12_feed 27 = .ok (.aload_n 0, 1) := by decide +kernel
theorem dX12_feed_28 : decode cX12_feed 28 = .ok (.iload_n 3, 1) := by decide +kernel
theorem dX12_feed_29 : decode cX12_feed 29 = .ok (.invokevirtual 208, 3) := by decide +kernel
theorem dX12_feed_32 : decode cX12_feed 32 = .ok (.aload_n 0, 1) := by decide +kernel
theorem dX12_feed_33 : decode cX12_feed 33 = .ok (.iload 4, 2) := by decide +kernel
theorem dX12_feed_35 : decode cX12_feed 35 = .ok (.invokevirtual 208, 3) := by decide +kernel
theorem dX12_feed_38 : decode cX12_feed 38 = .ok (.aload_n 0, 1) := by decide +kernel
theorem dX12_feed_39 : decode cX12_feed 39 = .ok (.iload 5, 2) := by decide +kernel
theorem dX12_feed_41 : decode cX12_feed 41 = .ok (.invokevirtual 208, 3) := by decide +kernel
theorem dX12_feed_44 : decode cX12_feed 44 = .ok (.aload_n 0, 1) := by decide +kernel
theorem dX12_feed_45 : decode cX12_feed 45 = .ok (.getfield 157, 3) := by decide +kernel
theorem dX12_feed_48 : decode cX12_feed 48 = .ok (.ireturn, 1) := by decide +kernel
theorem dX12_end_0 : decode cX12_end 0 = .ok (.aload_n 0, 1) := by decide +kernel
theorem dX12_end_1 : decode cX12_end 1 = .ok (.iconst 0, 1) := by decide +kernel
theorem dX12_end_2 : decode cX12_end 2 = .ok (.putfield 146, 3) := by decide +kernel
theorem dX12_end_5 : decode cX12_end 5 = .ok (.aload_n 0, 1) := by decide +kernel
theorem dX12_end_6 : decode cX12_end 6 = .ok (.iload_n 1, 1) := by decide +kernel
theorem dX12_end_7 : decode cX12_end 7 = .ok (.iconst 0, 1) := by decide +kernel
theorem dX12_end_8 : decode cX12_end 8 = .ok (.aload_n 0, 1) := by decide +kernel
theorem dX12_end_9 : decode cX12_end 9 = .ok (.getfield 157, 3) := by decide +kernel
theorem dX12_end_12 : decode cX12_end 12 = .ok (.invokevirtual 160, 3) := by decide +kernel
theorem dX12_end_15 : decode cX12_end 15 = .ok (.ifCond .ne 5, 3) := by decide +kernel
theorem dX12_end_18 : decode cX12_end 18 = .ok (.iconst 0, 1) := by decide +kernel
theorem dX12_end_19 : decode cX12_end 19 = .ok (.ireturn, 1) := by decide +kernel
theorem dX12_end_20 : decode cX12_end 20 = .ok (.aload_n 0, 1) := by decide +kernel
theorem dX12_end_21 : decode cX12_end 21 = .ok (.iload_n 1, 1) := by decide +kernel
theorem dX12_end_22 : decode cX12_end 22 = .ok (.putfield 157, 3) := by decide +kernel
theorem dX12_end_25 : decode cX12_end 25 = .ok (.iconst 1, 1) := by decide +kernel
theorem dX12_end_26 : decode cX12_end 26 = .ok (.ireturn, 1) := by decide +kernel
theorem dX12_raw_0 : decode cX12_raw 0 = .ok (.iload_n 1, 1) := by decide +kernel
theorem dX12_raw_1 : decode cX12_raw 1 = .ok (.aload_n 0, 1) := by decide +kernel
theorem dX12_raw_2 : decode cX12_raw 2 = .ok (.getfield 157, 3) := by decide +kernel
theorem dX12_raw_5 : decode cX12_raw 5 = .ok (.if_icmp .ge 12, 3) := by decide +kernel
theorem dX12_raw_8 : decode cX12_raw 8 = .ok (.aload_n 0, 1) := by decide +kernel
theorem dX12_raw_9 : decode cX12_raw 9 = .ok (.getfield 59, 3) := by decide +kernel
theorem dX12_raw_12 : decode cX12_raw 12 = .ok (.iload_n 1, 1) := by decide +kernel
theorem dX12_raw_13 : decode cX12_raw 13 = .ok (.iaload, 1) := by decide +kernel
theorem dX12_raw_14 : decode cX12_raw 14 = .ok (.goto 4, 3) := by decide +kernel
theorem dX12_raw_17 : decode cX12_raw 17 = .ok (.iconst (-1), 1) := by decide +kernel
theorem dX12_raw_18 : decode cX12_raw 18 = .ok (.ireturn, 1) := by decide +kernel
theorem dX12_isLetter_0 : decode cX12_isLetter 0 = .ok (.aload_n 0, 1) := by decide +kernel
theorem dX12_isLetter_1 : decode cX12_isLetter 1 = .ok (.iload_n 1, 1) := by decide +kernel
theorem dX12_isLetter_2 : decode cX12_isLetter 2 = .ok (.bipush 97, 2) := by decide +kernel
theorem dX12_isLetter_4 : decode cX12_isLetter 4 = .ok (.bipush 122, 2) := by decide +kernel
theorem dX12_isLetter_6 : decode cX12_isLetter 6 = .ok (.invokevirtual 160, 3) := by decide +kernel
theorem dX12_isLetter_9 : decode cX12_isLetter 9 = .ok (.ifCond .ne 15, 3) := by decide +kernel
theorem dX12_isLetter_12 : decode cX12_isLetter 12 = .ok (.aload_n 0, 1) := by decide +kernel
theorem dX12_isLetter_13 : decode cX12_isLetter 13 = .ok (.iload_n 1, 1) := by decide +kernel
theorem dX12_isLetter_14 : decode cX12_isLetter 14 = .ok (.bipush 65, 2) := by decide +kernel
theorem dX12_isLetter_16 : decode cX12_isLetter 16 = .ok (.bipush 90, 2) := by decide +kernel
theorem dX12_isLetter_18 : decode cX12_isLetter 18 = .ok (.invokevirtual 160, 3) := by decide +kernel
theorem dX12_isLetter_21 : decode cX12_isLetter 21 = .ok (.ifCond .eq 7, 3) := by decide +kernel
theorem dX12_isLetter_24 : decode cX12_isLetter 24 = .ok (.iconst 1, 1) := by decide +kernel
theorem dX12_isLetter_25 : decode cX12_isLetter 25 = .ok (.goto 4, 3) := by decide +kernel
theorem dX12_isLetter_28 : decode cX12_isLetter 28 = .ok (.iconst 0, 1) := by decide +kernel
theorem dX12_isLetter_29 : decode cX12_isLetter 29 = .ok (.ireturn, 1) := by decide +kernel
theorem dX12_isDigit_0 : decode cX12_isDigit 0 = .ok (.aload_n 0, 1) := by decide +kernel
theorem dX12_isDigit_1 : decode cX12_isDigit 1 = .ok (.iload_n 1, 1) := by decide +kernel
theorem dX12_isDigit_2 : decode cX12_isDigit 2 = .ok (.bipush 48, 2) := by decide +kernel
theorem dX12_isDigit_4 : decode cX12_isDigit 4 = .ok (.bipush 57, 2) := by decide +kernel
theorem dX12_isDigit_6 : decode cX12_isDigit 6 = .ok (.invokevirtual 160, 3) := by decide +kernel
theorem dX12_isDigit_9 : decode cX12_isDigit 9 = .ok (.ireturn, 1) := by decide +kernel
theorem dX12_isMarkSign_0 : decode cX12_isMarkSign 0 = .ok (.iload_n 1, 1) := by decide +kernel
theorem dX12_isMarkSign_1 : decode cX12_isMarkSign 1 = .ok (.bipush 59, 2) := by decide +kernel
theorem dX12_isMarkSign_3 : decode cX12_isMarkSign 3 = .ok (.if_icmp .eq 57, 3) := by decide +kernel
theorem dX12_isMarkSign_6 : decode cX12_isMarkSign 6 = .ok (.iload_n 1, 1) := by decide +kernel
theorem dX12_isMarkSign_7 : decode cX12_isMarkSign 7 = .ok (.bipush 43, 2) := by decide +kernel
theorem dX12_isMarkSign_9 : decode cX12_isMarkSign 9 = .ok (.if_icmp .eq 51, 3) := by decide +kernel
theorem dX12_isMarkSign_12 : decode cX12_isMarkSign 12 = .ok (.iload_n 1, 1) := by decide +kernel
theorem dX12_isMarkSign_13 : decode cX12_isMarkSign 13 = .ok (.bipush 45, 2) := by decide +kernel
theorem dX12_isMarkSign_15 : decode cX12_isMarkSign 15 = .ok (.if_icmp .eq 45, 3) := by decide +kernel
theorem dX12_isMarkSign_18 : decode cX12_isMarkSign 18 = .ok (.iload_n 1, 1) := by decide +kernel
theorem dX12_isMarkSign_19 : decode cX12_isMarkSign 19 = .ok (.bipush 42, 2) := by decide +kernel
theorem dX12_isMarkSign_21 : decode cX12_isMarkSign 21 = .ok (.if_icmp .eq 39, 3) := by decide +kernel
theorem dX12_isMarkSign_24 : decode cX12_isMarkSign 24 = .ok (.iload_n 1, 1) := by decide +kernel
theorem dX12_isMarkSign_25 : decode cX12_isMarkSign 25 = .ok (.bipush 47, 2) := by decide +kernel
theorem dX12_isMarkSign_27 : decode cX12_isMarkSign 27 = .ok (.if_icmp .eq 33, 3) := by decide +kernel
theorem dX12_isMarkSign_30 : decode cX12_isMarkSign 30 = .ok (.iload_n 1, 1) := by decide +kernel
theorem dX12_isMarkSign_31 : decode cX12_isMarkSign 31 = .ok (.bipush 40, 2) := by decide +kernel
theorem dX12_isMarkSign_33 : decode cX12_isMarkSign 33 = .ok (.if_icmp .eq 27, 3) := by decide +kernel
theorem dX12_isMarkSign_36 : decode cX12_isMarkSign 36 = .ok (.iload_n 1, 1) := by decide +kernel
theorem dX12_isMarkSign_37 : decode cX12_isMarkSign 37 = .ok (.bipush 41, 2) := by decide +kernel
theorem dX12_isMarkSign_39 : decode cX12_isMarkSign 39 = .ok (.if_icmp .eq 21, 3) := by decide +kernel
theorem dX12_isMarkSign_42 : decode cX12_isMarkSign 42 = .ok (.iload_n 1, 1) := by decide +kernel
theorem dX12_isMarkSign_43 : decode cX12_isMarkSign 43 = .ok (.bipush 60, 2) := by decide +kernel
theorem dX12_isMarkSign_45 : decode cX12_isMarkSign 45 = .ok (.if_icmp .eq 15, 3) := by decide +kernel
theorem dX12_isMarkSign_48 : decode cX12_isMarkSign 48 = .ok (.iload_n 1, 1) := by decide +kernel
theorem dX12_isMarkSign_49 : decode cX12_isMarkSign 49 = .ok (.bipush 61, 2) := by decide +kernel
theorem dX12_isMarkSign_51 : decode cX12_isMarkSign 51 = .ok (.if_icmp .eq 9, 3) := by decide +kernel
theorem dX12_isMarkSign_54 : decode cX12_isMarkSign 54 = .ok (.iload_n 1, 1) := by decide +kernel
theorem dX12_isMarkSign_55 : decode cX12_isMarkSign 55 = .ok (.bipush 62, 2) := by decide +kernel
theorem dX12_isMarkSign_57 : decode cX12_isMarkSign 57 = .ok (.if_icmp .ne 7, 3) := by decide +kernel
theorem dX12_isMarkSign_60 : decode cX12_isMarkSign 60 = .ok (.iconst 1, 1) := by decide +kernel
theorem dX12_isMarkSign_61 : decode cX12_isMarkSign 61 = .ok (.goto 4, 3) := by decide +kernel
theorem dX12_isMarkSign_64 : decode cX12_isMarkSign 64 = .ok (.iconst 0, 1) := by decide +kernel
theorem dX12_isMarkSign_65 : decode cX12_isMarkSign 65 = .ok (.ireturn, 1) := by decide +kernel
theorem dX12_wordAt_0 : decode cX12_wordAt 0 = .ok (.iconst (-1), 1) := by decide +kernel
theorem dX12_wordAt_1 : decode cX12_wordAt 1 = .ok (.istore_n 3, 1) := by decide +kernel
theorem dX12_wordAt_2 : decode cX12_wordAt 2 = .ok (.iconst 0, 1) := by decide +kernel
theorem dX12_wordAt_3 : decode cX12_wordAt 3 = .ok (.istore 4, 2) := by decide +kernel
theorem dX12_wordAt_5 : decode cX12_wordAt 5 = .ok (.iload 4, 2) := by decide +kernel
theorem dX12_wordAt_7 : decode cX12_wordAt 7 = .ok (.bipush 80, 2) := by decide +kernel
theorem dX12_wordAt_9 : decode cX12_wordAt 9 = .ok (.if_icmp .ge 108, 3) := by decide +kernel
theorem dX12_wordAt_12 : decode cX12_wordAt 12 = .ok (.iconst 0, 1) := by decide +kernel
theorem dX12_wordAt_13 : decode cX12_wordAt 13 = .ok (.istore 5, 2) := by decide +kernel
theorem dX12_wordAt_15 : decode cX12_wordAt 15 = .ok (.iload_n 3, 1) := by decide +kernel
theorem dX12_wordAt_16 : decode cX12_wordAt 16 = .ok (.iconst 1, 1) := by decide +kernel
theorem dX12_wordAt_17 : decode cX12_wordAt 17 = .ok (.iadd, 1) := by decide +kernel
theorem dX12_wordAt_18 : decode cX12_wordAt 18 = .ok (.istore_n 3, 1) := by decide +kernel
theorem dX12_wordAt_19 : decode cX12_wordAt 19 = .ok (.iload_n 1, 1) := by decide +kernel
theorem dX12_wordAt_20 : decode cX12_wordAt 20 = .ok (.iload 5, 2) := by decide +kernel
theorem dX12_wordAt_22 : decode cX12_wordAt 22 = .ok (.iadd, 1) := by decide +kernel
theorem dX12_wordAt_23 : decode cX12_wordAt 23 = .ok (.iload_n 2, 1) := by decide +kernel
theorem dX12_wordAt_24 : decode cX12_wordAt 24 = .ok (.if_icmp .ge 36, 3) := by decide +kernel
theorem dX12_wordAt_27 : decode cX12_wordAt 27 = .ok (.aload_n 0, 1) := by decide +kernel
theorem dX12_wordAt_28 : decode cX12_wordAt 28 = .ok (.getfield 62, 3) := by decide +kernel
theorem dX12_wordAt_31 : decode cX12_wordAt 31 = .ok (.iload 4, 2) := by decide +kernel
theorem dX12_wordAt_33 : decode cX12_wordAt 33 = .ok (.iconst 1, 1) := by decide +kernel
theorem dX12_wordAt_34 : decode cX12_wordAt 34 = .ok (.iadd, 1) := by decide +kernel
theorem dX12_wordAt_35 : decode cX12_wordAt 35 = .ok (.iload 5, 2) := by decide +kernel
theorem dX12_wordAt_37 : decode cX12_wordAt 37 = .ok (.iadd, 1) := by decide +kernel
theorem dX12_wordAt_38 : decode cX12_wordAt 38 = .ok (.iaload, 1) := by decide +kernel
theorem dX12_wordAt_39 : decode cX12_wordAt 39 = .ok (.aload_n 0, 1) := by decide +kernel
theorem dX12_wordAt_40 : decode cX12_wordAt 40 = .ok (.getfield 59, 3) := by decide +kernel
theorem dX12_wordAt_43 : decode cX12_wordAt 43 = .ok (.iload_n 1, 1) := by decide +kernel
theorem dX12_wordAt_44 : decode cX12_wordAt 44 = .ok (.iload 5, 2) := by decide +kernel
theorem dX12_wordAt_46 : decode cX12_wordAt 46 = .ok (.iadd, 1) := by decide +kernel
theorem dX12_wordAt_47 : decode cX12_wordAt 47 = .ok (.iaload, 1) := by decide +kernel
theorem dX12_wordAt_48 : decode cX12_wordAt 48 = .ok (.if_icmp .ne 12, 3) := by decide +kernel
theorem dX12_wordAt_51 : decode cX12_wordAt 51 = .ok (.iload 5, 2) := by decide +kernel
theorem dX12_wordAt_53 : decode cX12_wordAt 53 = .ok (.iconst 1, 1) := by decide +kernel
theorem dX12_wordAt_54 : decode cX12_wordAt 54 = .ok (.iadd, 1) := by decide +kernel
theorem dX12_wordAt_55 : decode cX12_wordAt 55 = .ok (.istore 5, 2) := by decide +kernel
theorem dX12_wordAt_57 : decode cX12_wordAt 57 = .ok (.goto (-38), 3) := by decide +kernel
theorem dX12_wordAt_60 : decode cX12_wordAt 60 = .ok (.iload_n 1, 1) := by decide +kernel
theorem dX12_wordAt_61 : decode cX12_wordAt 61 = .ok (.iload 5, 2) := by decide +kernel
theorem dX12_wordAt_63 : decode cX12_wordAt 63 = .ok (.iadd, 1) := by decide +kernel
theorem dX12_wordAt_64 : decode cX12_wordAt 64 = .ok (.iload_n 2, 1) := by decide +kernel
theorem dX12_wordAt_65 : decode cX12_wordAt 65 = .ok (.if_icmp .ne 22, 3) := by decide +kernel
theorem dX12_wordAt_68 : decode cX12_wordAt 68 = .ok (.aload_n 0, 1) := by decide +kernel
theorem dX12_wordAt_69 : decode cX12_wordAt 69 = .ok (.getfield 62, 3) := by decide +kernel
theorem dX12_wordAt_72 : decode cX12_wordAt 72 = .ok (.iload 4, 2) := by decide +kernel
theorem dX12_wordAt_74 : decode cX12_wordAt 74 = .ok (.iconst 1, 1) := by decide +kernel
theorem dX12_wordAt_75 : decode cX12_wordAt 75 = .ok (.iadd, 1) := by decide +kernel
theorem dX12_wordAt_76 : decode cX12_wordAt 76 = .ok (.iload 5, 2) := by decide +kernel
theorem dX12_wordAt_78 : decode cX12_wordAt 78 = .ok (.iadd, 1) := by decide +kernel
theorem dX12_wordAt_79 : decode cX12_wordAt 79 = .ok (.iaload, 1) := by decide +kernel
theorem dX12_wordAt_80 : decode cX12_wordAt 80 = .ok (.bipush 32, 2) := by decide +kernel
theorem dX12_wordAt_82 : decode cX12_wordAt 82 = .ok (.if_icmp .ne 5, 3) := by decide +kernel
theorem dX12_wordAt_85 : decode cX12_wordAt 85 = .ok (.iload_n 3, 1) := by decide +kernel
theorem dX12_wordAt_86 : decode cX12_wordAt 86 = .ok (.ireturn, 1) := by decide +kernel
theorem dX12_wordAt_87 : decode cX12_wordAt 87 = .ok (.iload 4, 2) := by decide +kernel
theorem dX12_wordAt_89 : decode cX12_wordAt 89 = .ok (.iconst 1, 1) := by decide +kernel
theorem dX12_wordAt_90 : decode cX12_wordAt 90 = .ok (.iadd, 1) := by decide +kernel
theorem dX12_wordAt_91 : decode cX12_wordAt 91 = .ok (.istore 4, 2) := by decide +kernel
theorem dX12_wordAt_93 : decode cX12_wordAt 93 = .ok (.aload_n 0, 1) := by decide +kernel
theorem dX12_wordAt_94 : decode cX12_wordAt 94 = .ok (.getfield 62, 3) := by decide +kernel
theorem dX12_wordAt_97 : decode cX12_wordAt 97 = .ok (.iload 4, 2) := by decide +kernel
theorem dX12_wordAt_99 : decode cX12_wordAt 99 = .ok (.iaload, 1) := by decide +kernel
theorem dX12_wordAt_100 : decode cX12_wordAt 100 = .ok (.bipush 32, 2) := by decide +kernel
theorem dX12_wordAt_102 : decode cX12_wordAt 102 = .ok (.if_icmp .eq 12, 3) := by decide +kernel
theorem dX12_wordAt_105 : decode cX12_wordAt 105 = .ok (.iload 4, 2) := by decide +kernel
theorem dX12_wordAt_107 : decode cX12_wordAt 107 = .ok (.iconst 1, 1) := by decide +kernel
theorem dX12_wordAt_108 : decode cX12_wordAt 108 = .ok (.iadd, 1) := by decide +kernel
theorem dX12_wordAt_109 : decode cX12_wordAt 109 = .ok (.istore 4, 2) := by decide +kernel
theorem dX12_wordAt_111 : decode cX12_wordAt 111 = .ok (.goto (-18), 3) := by decide +kernel
theorem dX12_wordAt_114 : decode cX12_wordAt 114 = .ok (.goto (-109), 3) := by decide +kernel
theorem dX12_wordAt_117 : decode cX12_wordAt 117 = .ok (.iconst (-1), 1) := by decide +kernel
theorem dX12_wordAt_118 : decode cX12_wordAt 118 = .ok (.ireturn, 1) := by decide +kernel
theorem dX12_reads_0 : decode cX12_reads 0 = .ok (.aload_n 0, 1) := by decide +kernel
theorem dX12_reads_1 : decode cX12_reads 1 = .ok (.aload_n 0, 1) := by decide +kernel
theorem dX12_reads_2 : decode cX12_reads 2 = .ok (.getfield 212, 3) := by decide +kernel
theorem dX12_reads_5 : decode cX12_reads 5 = .ok (.invokevirtual 215, 3) := by decide +kernel
theorem dX12_reads_8 : decode cX12_reads 8 = .ok (.bipush 32, 2) := by decide +kernel
theorem dX12_reads_10 : decode cX12_reads 10 = .ok (.if_icmp .eq 16, 3) := by decide +kernel
theorem dX12_reads_13 : decode cX12_reads 13 = .ok (.aload_n 0, 1) := by decide +kernel
theorem dX12_reads_14 : decode cX12_reads 14 = .ok (.aload_n 0, 1) := by decide +kernel
theorem dX12_reads_15 : decode cX12_reads 15 = .ok (.getfield 212, 3) := by decide +kernel
theorem dX12_reads_18 : decode cX12_reads 18 = .ok (.invokevirtual 215, 3) := by decide +kernel
theorem dX12_reads_21 : decode cX12_reads 21 = .ok (.bipush 10, 2) := by decide +kernel
theorem dX12_reads_23 : decode cX12_reads 23 = .ok (.if_icmp .ne 16, 3) := by decide +kernel
theorem dX12_reads_26 : decode cX12_reads 26 = .ok (.aload_n 0, 1) := by decide +kernel
theorem dX12_reads_27 : decode cX12_reads 27 = .ok (.aload_n 0, 1) := by decide +kernel
theorem dX12_reads_28 : decode cX12_reads 28 = .ok (.getfield 212, 3) := by decide +kernel
theorem dX12_reads_31 : decode cX12_reads 31 = .ok (.iconst 1, 1) := by decide +kernel
theorem dX12_reads_32 : decode cX12_reads 32 = .ok (.iadd, 1) := by decide +kernel
theorem dX12_reads_33 : decode cX12_reads 33 = .ok (.putfield 212, 3) := by decide +kernel
theorem dX12_reads_36 : decode cX12_reads 36 = .ok (.goto (-36), 3) := by decide +kernel
theorem dX12_reads_39 : decode cX12_reads 39 = .ok (.aload_n 0, 1) := by decide +kernel
theorem dX12_reads_40 : decode cX12_reads 40 = .ok (.aload_n 0, 1) := by decide +kernel
theorem dX12_reads_41 : decode cX12_reads 41 = .ok (.getfield 212, 3) := by decide +kernel
theorem dX12_reads_44 : decode cX12_reads 44 = .ok (.putfield 218, 3) := by decide +kernel
theorem dX12_reads_47 : decode cX12_reads 47 = .ok (.aload_n 0, 1) := by decide +kernel
theorem dX12_reads_48 : decode cX12_reads 48 = .ok (.iconst 1, 1) := by decide +kernel
theorem dX12_reads_49 : decode cX12_reads 49 = .ok (.putfield 221, 3) := by decide +kernel
theorem dX12_reads_52 : decode cX12_reads 52 = .ok (.aload_n 0, 1) := by decide +kernel
theorem dX12_reads_53 : decode cX12_reads 53 = .ok (.aload_n 0, 1) := by decide +kernel
theorem dX12_reads_54 : decode cX12_reads 54 = .ok (.getfield 212, 3) := by decide +kernel
theorem dX12_reads_57 : decode cX12_reads 57 = .ok (.invokevirtual 215, 3) := by decide +kernel
theorem dX12_reads_60 : decode cX12_reads 60 = .ok (.istore_n 1, 1) := by decide +kernel
theorem dX12_reads_61 : decode cX12_reads 61 = .ok (.iload_n 1, 1) := by decide +kernel
theorem dX12_reads_62 : decode cX12_reads 62 = .ok (.iconst (-1), 1) := by decide +kernel
theorem dX12_reads_63 : decode cX12_reads 63 = .ok (.if_icmp .ne 9, 3) := by decide +kernel
theorem dX12_reads_66 : decode cX12_reads 66 = .ok (.aload_n 0, 1) := by decide +kernel
theorem dX12_reads_67 : decode cX12_reads 67 = .ok (.iconst 0, 1) := by decide +kernel
theorem dX12_reads_68 : decode cX12_reads 68 = .ok (.putfield 221, 3) := by decide +kernel
theorem dX12_reads_71 : decode cX12_reads 71 = .ok (.return_, 1) := by decide +kernel
theorem dX12_reads_72 : decode cX12_reads 72 = .ok (.aload_n 0, 1) := by decide +kernel
theorem dX12_reads_73 : decode cX12_reads 73 = .ok (.aload_n 0, 1) := by decide +kernel
theorem dX12_reads_74 : decode cX12_reads 74 = .ok (.getfield 212, 3) := by decide +kernel
theorem dX12_reads_77 : decode cX12_reads 77 = .ok (.iconst 1, 1) := by decide +kernel
theorem dX12_reads_78 : decode cX12_reads 78 = .ok (.iadd, 1) := by decide +kernel
theorem dX12_reads_79 : decode cX12_reads 79 = .ok (.putfield 212, 3) := by decide +kernel
theorem dX12_reads_82 : decode cX12_reads 82 = .ok (.aload_n 0, 1) := by decide +kernel
theorem dX12_reads_83 : decode cX12_reads 83 = .ok (.iload_n 1, 1) := by decide +kernel
theorem dX12_reads_84 : decode cX12_reads 84 = .ok (.putfield 224, 3) := by decide +kernel
theorem dX12_reads_87 : decode cX12_reads 87 = .ok (.aload_n 0, 1) := by decide +kernel
theorem dX12_reads_88 : decode cX12_reads 88 = .ok (.iload_n 1, 1) := by decide +kernel
theorem dX12_reads_89 : decode cX12_reads 89 = .ok (.invokevirtual 227, 3) := by decide +kernel
theorem dX12_reads_92 : decode cX12_reads 92 = .ok (.ifCond .eq 63, 3) := by decide +kernel
theorem dX12_reads_95 : decode cX12_reads 95 = .ok (.aload_n 0, 1) := by decide +kernel
theorem dX12_reads_96 : decode cX12_reads 96 = .ok (.aload_n 0, 1) := by decide +kernel
theorem dX12_reads_97 : decode cX12_reads 97 = .ok (.aload_n 0, 1) := by decide +kernel
theorem dX12_reads_98 : decode cX12_reads 98 = .ok (.getfield 212, 3) := by decide +kernel
theorem dX12_reads_101 : decode cX12_reads 101 = .ok (.invokevirtual 215, 3) := by decide +kernel
theorem dX12_reads_104 : decode cX12_reads 104 = .ok (.invokevirtual 227, 3) := by decide +kernel
theorem dX12_reads_107 : decode cX12_reads 107 = .ok (.ifCond .eq 16, 3) := by decide +kernel
theorem dX12_reads_110 : decode cX12_reads 110 = .ok (.aload_n 0, 1) := by decide +kernel
theorem dX12_reads_111 : decode cX12_reads 111 = .ok (.aload_n 0, 1) := by decide +kernel
theorem dX12_reads_112 : decode cX12_reads 112 = .ok (.getfield 212, 3) := by decide +kernel
theorem dX12_reads_115 : decode cX12_reads 115 = .ok (.iconst 1, 1) := by decide +kernel
theorem dX12_reads_116 : decode cX12_reads 116 = .ok (.iadd, 1) := by decide +kernel
theorem dX12_reads_117 : decode cX12_reads 117 = .ok (.putfield 212, 3) := by decide +kernel
theorem dX12_reads_120 : decode cX12_reads 120 = .ok (.goto (-25), 3) := by decide +kernel
theorem dX12_reads_123 : decode cX12_reads 123 = .ok (.aload_n 0, 1) := by decide +kernel
theorem dX12_reads_124 : decode cX12_reads 124 = .ok (.aload_n 0, 1) := by decide +kernel
theorem dX12_reads_125 : decode cX12_reads 125 = .ok (.aload_n 0, 1) := by decide +kernel
theorem dX12_reads_126 : decode cX12_reads 126 = .ok (.getfield 218, 3) := by decide +kernel
theorem dX12_reads_129 : decode cX12_reads 129 = .ok (.aload_n 0, 1) := by decide +kernel
theorem dX12_reads_130 : decode cX12_reads 130 = .ok (.getfield 212, 3) := by decide +kernel
theorem dX12_reads_133 : decode cX12_reads 133 = .ok (.invokevirtual 230, 3) := by decide +kernel
theorem dX12_reads_136 : decode cX12_reads 136 = .ok (.putfield 224, 3) := by decide +kernel
theorem dX12_reads_139 : decode cX12_reads 139 = .ok (.aload_n 0, 1) := by decide +kernel
theorem dX12_reads_140 : decode cX12_reads 140 = .ok (.getfield 224, 3) := by decide +kernel
theorem dX12_reads_143 : decode cX12_reads 143 = .ok (.iconst (-1), 1) := by decide +kernel
theorem dX12_reads_144 : decode cX12_reads 144 = .ok (.if_icmp .eq 129, 3) := by decide +kernel
theorem dX12_reads_147 : decode cX12_reads 147 = .ok (.aload_n 0, 1) := by decide +kernel
theorem dX12_reads_148 : decode cX12_reads 148 = .ok (.iconst 2, 1) := by decide +kernel
theorem dX12_reads_149 : decode cX12_reads 149 = .ok (.putfield 221, 3) := by decide +kernel
theorem dX12_reads_152 : decode cX12_reads 152 = .ok (.goto 121, 3) := by decide +kernel
theorem dX12_reads_155 : decode cX12_reads 155 = .ok (.aload_n 0, 1) := by decide +kernel
theorem dX12_reads_156 : decode cX12_reads 156 = .ok (.iload_n 1, 1) := by decide +kernel
theorem dX12_reads_157 : decode cX12_reads 157 = .ok (.invokevirtual 234, 3) := by decide +kernel
theorem dX12_reads_160 : decode cX12_reads 160 = .ok (.ifCond .eq 100, 3) := by decide +kernel
theorem dX12_reads_163 : decode cX12_reads 163 = .ok (.aload_n 0, 1) := by decide +kernel
theorem dX12_reads_164 : decode cX12_reads 164 = .ok (.iload_n 1, 1) := by decide +kernel
theorem dX12_reads_165 : decode cX12_reads 165 = .ok (.bipush 48, 2) := by decide +kernel
theorem dX12_reads_167 : decode cX12_reads 167 = .ok (.isub, 1) := by decide +kernel
theorem dX12_reads_168 : decode cX12_reads 168 = .ok (.putfield 224, 3) := by decide +kernel
theorem dX12_reads_171 : decode cX12_reads 171 = .ok (.aload_n 0, 1) := by decide +kernel
theorem dX12_reads_172 : decode cX12_reads 172 = .ok (.aload_n 0, 1) := by decide +kernel
theorem dX12_reads_173 : decode cX12_reads 173 = .ok (.aload_n 0, 1) := by decide +kernel
theorem dX12_reads_174 : decode cX12_reads 174 = .ok (.getfield 212, 3) := by decide +kernel
theorem dX12_reads_177 : decode cX12_reads 177 = .ok (.invokevirtual 215, 3) := by decide +kernel
theorem dX12_reads_180 : decode cX12_reads 180 = .ok (.invokevirtual 234, 3) := by decide +kernel
theorem dX12_reads_183 : decode cX12_reads 183 = .ok (.ifCond .eq 56, 3) := by decide +kernel
theorem dX12_reads_186 : decode cX12_reads 186 = .ok (.aload_n 0, 1) := by decide +kernel
theorem dX12_reads_187 : decode cX12_reads 187 = .ok (.aload_n 0, 1) := by decide +kernel
theorem dX12_reads_188 : decode cX12_reads 188 = .ok (.getfield 224, 3) := by decide +kernel
theorem dX12_reads_191 : decode cX12_reads 191 = .ok (.sipush 10000, 3) := by decide +kernel
theorem dX12_reads_194 : decode cX12_reads 194 = .ok (.if_icmp .ge 25, 3) := by decide +kernel
theorem dX12_reads_197 : decode cX12_reads 197 = .ok (.bipush 10, 2) := by decide +kernel
theorem dX12_reads_199 : decode cX12_reads 199 = .ok (.aload_n 0, 1) := by decide +kernel
theorem dX12_reads_200 : decode cX12_reads 200 = .ok (.getfield 224, 3) := by decide +kernel
theorem dX12_reads_203 : decode cX12_reads 203 = .ok (.imul, 1) := by decide +kernel
theorem dX12_reads_204 : decode cX12_reads 204 = .ok (.aload_n 0, 1) := by decide +kernel
theorem dX12_reads_205 : decode cX12_reads 205 = .ok (.aload_n 0, 1) := by decide +kernel
theorem dX12_reads_206 : decode cX12_reads 206 = .ok (.getfield 212, 3) := by decide +kernel
theorem dX12_reads_209 : decode cX12_reads 209 = .ok (.invokevirtual 215, 3) := by decide +kernel
theorem dX12_reads_212 : decode cX12_reads 212 = .ok (.iadd, 1) := by decide +kernel
theorem dX12_reads_213 : decode cX12_reads 213 = .ok (.bipush 48, 2) := by decide +kernel
theorem dX12_reads_215 : decode cX12_reads 215 = .ok (.isub, 1) := by decide +kernel
theorem dX12_reads_216 : decode cX12_reads 216 = .ok (.goto 7, 3) := by decide +kernel
theorem dX12_reads_219 : decode cX12_reads 219 = .ok (.aload_n 0, 1) := by decide +kernel
theorem dX12_reads_220 : decode cX12_reads 220 = .ok (.getfield 224, 3) := by decide +kernel
theorem dX12_reads_223 : decode cX12_reads 223 = .ok (.putfield 224, 3) := by decide +kernel
theorem dX12_reads_226 : decode cX12_reads 226 = .ok (.aload_n 0, 1) := by decide +kernel
theorem dX12_reads_227 : decode cX12_reads 227 = .ok (.aload_n 0, 1) := by decide +kernel
theorem dX12_reads_228 : decode cX12_reads 228 = .ok (.getfield 212, 3) := by decide +kernel
theorem dX12_reads_231 : decode cX12_reads 231 = .ok (.iconst 1, 1) := by decide +kernel
theorem dX12_reads_232 : decode cX12_reads 232 = .ok (.iadd, 1) := by decide +kernel
theorem dX12_reads_233 : decode cX12_reads 233 = .ok (.putfield 212, 3) := by decide +kernel
theorem dX12_reads_236 : decode cX12_reads 236 = .ok (.goto (-65), 3) := by decide +kernel
theorem dX12_reads_239 : decode cX12_reads 239 = .ok (.aload_n 0, 1) := by decide +kernel
theorem dX12_reads_240 : decode cX12_reads 240 = .ok (.getfield 212, 3) := by decide +kernel
theorem dX12_reads_243 : decode cX12_reads 243 = .ok (.aload_n 0, 1) := by decide +kernel
theorem dX12_reads_244 : decode cX12_reads 244 = .ok (.getfield 218, 3) := by decide +kernel
theorem dX12_reads_247 : decode cX12_reads 247 = .ok (.isub, 1) := by decide +kernel
theorem dX12_reads_248 : decode cX12_reads 248 = .ok (.iconst 5, 1) := by decide +kernel
theorem dX12_reads_249 : decode cX12_reads 249 = .ok (.if_icmp .ge 24, 3) := by decide +kernel
theorem dX12_reads_252 : decode cX12_reads 252 = .ok (.aload_n 0, 1) := by decide +kernel
theorem dX12_reads_253 : decode cX12_reads 253 = .ok (.iconst 3, 1) := by decide +kernel
theorem dX12_reads_254 : decode cX12_reads 254 = .ok (.putfield 221, 3) := by decide +kernel
theorem dX12_reads_257 : decode cX12_reads 257 = .ok (.goto 16, 3) := by decide +kernel
theorem dX12_reads_260 : decode cX12_reads 260 = .ok (.aload_n 0, 1) := by decide +kernel
theorem dX12_reads_261 : decode cX12_reads 261 = .ok (.iload_n 1, 1) := by decide +kernel
theorem dX12_reads_262 : decode cX12_reads 262 = .ok (.invokevirtual 237, 3) := by decide +kernel
theorem dX12_reads_265 : decode cX12_reads 265 = .ok (.ifCond .eq 8, 3) := by decide +kernel
theorem dX12_reads_268 : decode cX12_reads 268 = .ok (.aload_n 0, 1) := by decide +kernel
theorem dX12_reads_269 : decode cX12_reads 269 = .ok (.iconst 4, 1) := by decide +kernel
theorem dX12_reads_270 : decode cX12_reads 270 = .ok (.putfield 221, 3) := by decide +kernel
theorem dX12_reads_273 : decode cX12_reads 273 = .ok (.return_, 1) := by decide +kernel
theorem dX12_errs_0 : decode cX12_errs 0 = .ok (.aload_n 0, 1) := by decide +kernel
theorem dX12_errs_1 : decode cX12_errs 1 = .ok (.iload_n 1, 1) := by decide +kernel
theorem dX12_errs_2 : decode cX12_errs 2 = .ok (.putfield 240, 3) := by decide +kernel
theorem dX12_errs_5 : decode cX12_errs 5 = .ok (.aload_n 0, 1) := by decide +kernel
theorem dX12_errs_6 : decode cX12_errs 6 = .ok (.aload_n 0, 1) := by decide +kernel
theorem dX12_errs_7 : decode cX12_errs 7 = .ok (.getfield 218, 3) := by decide +kernel
theorem dX12_errs_10 : decode cX12_errs 10 = .ok (.putfield 243, 3) := by decide +kernel
theorem dX12_errs_13 : decode cX12_errs 13 = .ok (.iconst (-1), 1) := by decide +kernel
theorem dX12_errs_14 : decode cX12_errs 14 = .ok (.ireturn, 1) := by decide +kernel
theorem dX12_isWord_0 : decode cX12_isWord 0 = .ok (.aload_n 0, 1) := by decide +kernel
theorem dX12_isWord_1 : decode cX12_isWord 1 = .ok (.getfield 221, 3) := by decide +kernel
theorem dX12_isWord_4 : decode cX12_isWord 4 = .ok (.iconst 2, 1) := by decide +kernel
theorem dX12_isWord_5 : decode cX12_isWord 5 = .ok (.if_icmp .ne 15, 3) := by decide +kernel
theorem dX12_isWord_8 : decode cX12_isWord 8 = .ok (.aload_n 0, 1) := by decide +kernel
theorem dX12_isWord_9 : decode cX12_isWord 9 = .ok (.getfield 224, 3) := by decide +kernel
theorem dX12_isWord_12 : decode cX12_isWord 12 = .ok (.iload_n 1, 1) := by decide +kernel
theorem dX12_isWord_13 : decode cX12_isWord 13 = .ok (.if_icmp .ne 7, 3) := by decide +kernel
theorem dX12_isWord_16 : decode cX12_isWord 16 = .ok (.iconst 1, 1) := by decide +kernel
theorem dX12_isWord_17 : decode cX12_isWord 17 = .ok (.goto 4, 3) := by decide +kernel
theorem dX12_isWord_20 : decode cX12_isWord 20 = .ok (.iconst 0, 1) := by decide +kernel
theorem dX12_isWord_21 : decode cX12_isWord 21 = .ok (.ireturn, 1) := by decide +kernel
theorem dX12_isSign_0 : decode cX12_isSign 0 = .ok (.aload_n 0, 1) := by decide +kernel
theorem dX12_isSign_1 : decode cX12_isSign 1 = .ok (.getfield 221, 3) := by decide +kernel
theorem dX12_isSign_4 : decode cX12_isSign 4 = .ok (.iconst 4, 1) := by decide +kernel
theorem dX12_isSign_5 : decode cX12_isSign 5 = .ok (.if_icmp .ne 15, 3) := by decide +kernel
theorem dX12_isSign_8 : decode cX12_isSign 8 = .ok (.aload_n 0, 1) := by decide +kernel
theorem dX12_isSign_9 : decode cX12_isSign 9 = .ok (.getfield 224, 3) := by decide +kernel
theorem dX12_isSign_12 : decode cX12_isSign 12 = .ok (.iload_n 1, 1) := by decide +kernel
theorem dX12_isSign_13 : decode cX12_isSign 13 = .ok (.if_icmp .ne 7, 3) := by decide +kernel
theorem dX12_isSign_16 : decode cX12_isSign 16 = .ok (.iconst 1, 1) := by decide +kernel
theorem dX12_isSign_17 : decode cX12_isSign 17 = .ok (.goto 4, 3) := by decide +kernel
theorem dX12_isSign_20 : decode cX12_isSign 20 = .ok (.iconst 0, 1) := by decide +kernel
theorem dX12_isSign_21 : decode cX12_isSign 21 = .ok (.ireturn, 1) := by decide +kernel
theorem dX12_emits_0 : decode cX12_emits 0 = .ok (.aload_n 0, 1) := by decide +kernel
theorem dX12_emits_1 : decode cX12_emits 1 = .ok (.getfield 74, 3) := by decide +kernel
theorem dX12_emits_4 : decode cX12_emits 4 = .ok (.sipush 400, 3) := by decide +kernel
theorem dX12_emits_7 : decode cX12_emits 7 = .ok (.aload_n 0, 1) := by decide +kernel
theorem dX12_emits_8 : decode cX12_emits 8 = .ok (.getfield 246, 3) := by decide +kernel
theorem dX12_emits_11 : decode cX12_emits 11 = .ok (.iadd, 1) := by decide +kernel
theorem dX12_emits_12 : decode cX12_emits 12 = .ok (.iload_n 1, 1) := by decide +kernel
theorem dX12_emits_13 : decode cX12_emits 13 = .ok (.iastore, 1) := by decide +kernel
theorem dX12_emits_14 : decode cX12_emits 14 = .ok (.aload_n 0, 1) := by decide +kernel
theorem dX12_emits_15 : decode cX12_emits 15 = .ok (.getfield 77, 3) := by decide +kernel
theorem dX12_emits_18 : decode cX12_emits 18 = .ok (.sipush 400, 3) := by decide +kernel
theorem dX12_emits_21 : decode cX12_emits 21 = .ok (.aload_n 0, 1) := by decide +kernel
theorem dX12_emits_22 : decode cX12_emits 22 = .ok (.getfield 246, 3) := by decide +kernel
theorem dX12_emits_25 : decode cX12_emits 25 = .ok (.iadd, 1) := by decide +kernel
theorem dX12_emits_26 : decode cX12_emits 26 = .ok (.iload_n 2, 1) := by decide +kernel
theorem dX12_emits_27 : decode cX12_emits 27 = .ok (.iastore, 1) := by decide +kernel
theorem dX12_emits_28 : decode cX12_emits 28 = .ok (.aload_n 0, 1) := by decide +kernel
theorem dX12_emits_29 : decode cX12_emits 29 = .ok (.aload_n 0, 1) := by decide +kernel
theorem dX12_emits_30 : decode cX12_emits 30 = .ok (.getfield 246, 3) := by decide +kernel
theorem dX12_emits_33 : decode cX12_emits 33 = .ok (.iconst 1, 1) := by decide +kernel
theorem dX12_emits_34 : decode cX12_emits 34 = .ok (.iadd, 1) := by decide +kernel
theorem dX12_emits_35 : decode cX12_emits 35 = .ok (.putfield 246, 3) := by decide +kernel
theorem dX12_emits_38 : decode cX12_emits 38 = .ok (.return_, 1) := by decide +kernel
theorem dX12_readUnit_0 : decode cX12_readUnit 0 = .ok (.aload_n 0, 1) := by decide +kernel
theorem dX12_readUnit_1 : decode cX12_readUnit 1 = .ok (.getfield 221, 3) := by decide +kernel
theorem dX12_readUnit_4 : decode cX12_readUnit 4 = .ok (.iconst 2, 1) := by decide +kernel
theorem dX12_readUnit_5 : decode cX12_readUnit 5 = .ok (.if_icmp .ne 16, 3) := by decide +kernel
theorem dX12_readUnit_8 : decode cX12_readUnit 8 = .ok (.aload_n 0, 1) := by decide +kernel
theorem dX12_readUnit_9 : decode cX12_readUnit 9 = .ok (.getfield 224, 3) := by decide +kernel
theorem dX12_readUnit_12 : decode cX12_readUnit 12 = .ok (.bipush 6, 2) := by decide +kernel
theorem dX12_readUnit_14 : decode cX12_readUnit 14 = .ok (.if_icmp .lt 7, 3) := by decide +kernel
theorem dX12_readUnit_17 : decode cX12_readUnit 17 = .ok (.iconst 1, 1) := by decide +kernel
theorem dX12_readUnit_18 : decode cX12_readUnit 18 = .ok (.goto 4, 3) := by decide +kernel
theorem dX12_readUnit_21 : decode cX12_readUnit 21 = .ok (.iconst 0, 1) := by decide +kernel
theorem dX12_readUnit_22 : decode cX12_readUnit 22 = .ok (.istore_n 1, 1) := by decide +kernel
theorem dX12_readUnit_23 : decode cX12_readUnit 23 = .ok (.iload_n 1, 1) := by decide +kernel
theorem dX12_readUnit_24 : decode cX12_readUnit 24 = .ok (.ifCond .ne 17, 3) := by decide +kernel
theorem dX12_readUnit_27 : decode cX12_readUnit 27 = .ok (.aload_n 0, 1) := by decide +kernel
theorem dX12_readUnit_28 : decode cX12_readUnit 28 = .ok (.getfield 221, 3) := by decide +kernel
theorem dX12_readUnit_31 : decode cX12_readUnit 31 = .ok (.iconst 3, 1) := by decide +kernel
theorem dX12_readUnit_32 : decode cX12_readUnit 32 = .ok (.if_icmp .eq 9, 3) := by decide +kernel
theorem dX12_readUnit_35 : decode cX12_readUnit 35 = .ok (.aload_n 0, 1) := by decide +kernel
theorem dX12_readUnit_36 : decode cX12_readUnit 36 = .ok (.iconst 1, 1) := by decide +kernel
theorem dX12_readUnit_37 : decode cX12_readUnit 37 = .ok (.invokevirtual 249, 3) := by decide +kernel
theorem dX12_readUnit_40 : decode cX12_readUnit 40 = .ok (.ireturn, 1) := by decide +kernel
theorem dX12_readUnit_41 : decode cX12_readUnit 41 = .ok (.aload_n 0, 1) := by decide +kernel
theorem dX12_readUnit_42 : decode cX12_readUnit 42 = .ok (.iload_n 1, 1) := by decide +kernel
theorem dX12_readUnit_43 : decode cX12_readUnit 43 = .ok (.ifCond .eq 7, 3) := by decide +kernel
theorem dX12_readUnit_46 : decode cX12_readUnit 46 = .ok (.iconst 1, 1) := by decide +kernel
theorem dX12_readUnit_47 : decode cX12_readUnit 47 = .ok (.goto 4, 3) := by decide +kernel
theorem dX12_readUnit_50 : decode cX12_readUnit 50 = .ok (.iconst 0, 1) := by decide +kernel
theorem dX12_readUnit_51 : decode cX12_readUnit 51 = .ok (.iload_n 1, 1) := by decide +kernel
theorem dX12_readUnit_52 : decode cX12_readUnit 52 = .ok (.ifCond .eq 13, 3) := by decide +kernel
theorem dX12_readUnit_55 : decode cX12_readUnit 55 = .ok (.aload_n 0, 1) := by decide +kernel
theorem dX12_readUnit_56 : decode cX12_readUnit 56 = .ok (.getfield 224, 3) := by decide +kernel
theorem dX12_readUnit_59 : decode cX12_readUnit 59 = .ok (.bipush 6, 2) := by decide +kernel
theorem dX12_readUnit_61 : decode cX12_readUnit 61 = .ok (.isub, 1) := by decide +kernel
theorem dX12_readUnit_62 : decode cX12_readUnit 62 = .ok (.goto 7, 3) := by decide +kernel
theorem dX12_readUnit_65 : decode cX12_readUnit 65 = .ok (.aload_n 0, 1) := by decide +kernel
theorem dX12_readUnit_66 : decode cX12_readUnit 66 = .ok (.getfield 224, 3) := by decide +kernel
theorem dX12_readUnit_69 : decode cX12_readUnit 69 = .ok (.invokevirtual 252, 3) := by decide +kernel
theorem dX12_readUnit_72 : decode cX12_readUnit 72 = .ok (.aload_n 0, 1) := by decide +kernel
theorem dX12_readUnit_73 : decode cX12_readUnit 73 = .ok (.invokevirtual 255, 3) := by decide +kernel
theorem dX12_readUnit_76 : decode cX12_readUnit 76 = .ok (.iconst 0, 1) := by decide +kernel
theorem dX12_readUnit_77 : decode cX12_readUnit 77 = .ok (.ireturn, 1) := by decide +kernel
theorem dX12_readProduct_0 : decode cX12_readProduct 0 = .ok (.aload_n 0, 1) := by decide +kernel
theorem dX12_readProduct_1 : decode cX12_readProduct 1 = .ok (.invokevirtual 258, 3) := by decide +kernel
theorem dX12_readProduct_4 : decode cX12_readProduct 4 = .ok (.iconst (-1), 1) := by decide +kernel
theorem dX12_readProduct_5 : decode cX12_readProduct 5 = .ok (.if_icmp .ne 5, 3) := by decide +kernel
theorem dX12_readProduct_8 : decode cX12_readProduct 8 = .ok (.iconst (-1), 1) := by decide +kernel
theorem dX12_readProduct_9 : decode cX12_readProduct 9 = .ok (.ireturn, 1) := by decide +kernel
theorem dX12_readProduct_10 : decode cX12_readProduct 10 = .ok (.aload_n 0, 1) := by decide +kernel
theorem dX12_readProduct_11 : decode cX12_readProduct 11 = .ok (.bipush 42, 2) := by decide +kernel
theorem dX12_readProduct_13 : decode cX12_readProduct 13 = .ok (.invokevirtual 262, 3) := by decide +kernel
theorem dX12_readProduct_16 : decode cX12_readProduct 16 = .ok (.ifCond .ne 12, 3) := by decide +kernel
theorem dX12_readProduct_19 : decode cX12_readProduct 19 = .ok (.aload_n 0, 1) := by decide +kernel
theorem dX12_readProduct_20 : decode cX12_readProduct 20 = .ok (.bipush 47, 2) := by decide +kernel
theorem dX12_readProduct_22 : decode cX12_readProduct 22 = .ok (.invokevirtual 262, 3) := by decide +kernel
theorem dX12_readProduct_25 : decode cX12_readProduct 25 = .ok (.ifCond .eq 76, 3) := by decide +kernel
theorem dX12_readProduct_28 : decode cX12_readProduct 28 = .ok (.aload_n 0, 1) := by decide +kernel
theorem dX12_readProduct_29 : decode cX12_readProduct 29 = .ok (.bipush 42, 2) := by decide +kernel
theorem dX12_readProduct_31 : decode cX12_readProduct 31 = .ok (.invokevirtual 262, 3) := by decide +kernel
theorem dX12_readProduct_34 : decode cX12_readProduct 34 = .ok (.istore_n 1, 1) := by decide +kernel
theorem dX12_readProduct_35 : decode cX12_readProduct 35 = .ok (.aload_n 0, 1) := by decide +kernel
theorem dX12_readProduct_36 : decode cX12_readProduct 36 = .ok (.invokevirtual 255, 3) := by decide +kernel
theorem dX12_readProduct_39 : decode cX12_readProduct 39 = .ok (.iload_n 1, 1) := by decide +kernel
theorem dX12_readProduct_40 : decode cX12_readProduct 40 = .ok (.ifCond .ne 17, 3) := by decide +kernel
theorem dX12_readProduct_43 : decode cX12_readProduct 43 = .ok (.aload_n 0, 1) := by decide +kernel
theorem dX12_readProduct_44 : decode cX12_readProduct 44 = .ok (.getfield 221, 3) := by decide +kernel
theorem dX12_readProduct_47 : decode cX12_readProduct 47 = .ok (.iconst 3, 1) := by decide +kernel
theorem dX12_readProduct_48 : decode cX12_readProduct 48 = .ok (.if_icmp .eq 9, 3) := by decide +kernel
theorem dX12_readProduct_51 : decode cX12_readProduct 51 = .ok (.aload_n 0, 1) := by decide +kernel
theorem dX12_readProduct_52 : decode cX12_readProduct 52 = .ok (.iconst 1, 1) := by decide +kernel
theorem dX12_readProduct_53 : decode cX12_readProduct 53 = .ok (.invokevirtual 249, 3) := by decide +kernel
theorem dX12_readProduct_56 : decode cX12_readProduct 56 = .ok (.ireturn, 1) := by decide +kernel
theorem dX12_readProduct_57 : decode cX12_readProduct 57 = .ok (.iload_n 1, 1) := by decide +kernel
theorem dX12_readProduct_58 : decode cX12_readProduct 58 = .ok (.ifCond .ne 16, 3) := by decide +kernel
theorem dX12_readProduct_61 : decode cX12_readProduct 61 = .ok (.aload_n 0, 1) := by decide +kernel
theorem dX12_readProduct_62 : decode cX12_readProduct 62 = .ok (.getfield 224, 3) := by decide +kernel
theorem dX12_readProduct_65 : decode cX12_readProduct 65 = .ok (.ifCond .ne 9, 3) := by decide +kernel
theorem dX12_readProduct_68 : decode cX12_readProduct 68 = .ok (.aload_n 0, 1) := by decide +kernel
theorem dX12_readProduct_69 : decode cX12_readProduct 69 = .ok (.iconst 2, 1) := by decide +kernel
theorem dX12_readProduct_70 : decode cX12_readProduct 70 = .ok (.invokevirtual 249, 3) := by decide +kernel
theorem dX12_readProduct_73 : decode cX12_readProduct 73 = .ok (.ireturn, 1) := by decide +kernel
theorem dX12_readProduct_74 : decode cX12_readProduct 74 = .ok (.aload_n 0, 1) := by decide +kernel
theorem dX12_readProduct_75 : decode cX12_readProduct 75 = .ok (.invokevirtual 258, 3) := by decide +kernel
theorem dX12_readProduct_78 : decode cX12_readProduct 78 = .ok (.iconst (-1), 1) := by decide +kernel
theorem dX12_readProduct_79 : decode cX12_readProduct 79 = .ok (.if_icmp .ne 5, 3) := by decide +kernel
theorem dX12_readProduct_82 : decode cX12_readProduct 82 = .ok (.iconst (-1), 1) := by decide +kernel
theorem dX12_readProduct_83 : decode cX12_readProduct 83 = .ok (.ireturn, 1) := by decide +kernel
theorem dX12_readProduct_84 : decode cX12_readProduct 84 = .ok (.aload_n 0, 1) := by decide +kernel
theorem dX12_readProduct_85 : decode cX12_readProduct 85 = .ok (.iload_n 1, 1) := by decide +kernel
theorem dX12_readProduct_86 : decode cX12_readProduct 86 = .ok (.ifCond .eq 7, 3) := by decide +kernel
theorem dX12_readProduct_89 : decode cX12_readProduct 89 = .ok (.iconst 4, 1) := by decide +kernel
theorem dX12_readProduct_90 : decode cX12_readProduct 90 = .ok (.goto 4, 3) := by decide +kernel
theorem dX12_readProduct_93 : decode cX12_readProduct 93 = .ok (.iconst 5, 1) := by decide +kernel
theorem dX12_readProduct_94 : decode cX12_readProduct 94 = .ok (.iconst 0, 1) := by decide +kernel
theorem dX12_readProduct_95 : decode cX12_readProduct 95 = .ok (.invokevirtual 252, 3) := by decide +kernel
theorem dX12_readProduct_98 : decode cX12_readProduct 98 = .ok (.goto (-88), 3) := by decide +kernel
theorem dX12_readProduct_101 : decode cX12_readProduct 101 = .ok (.iconst 0, 1) := by decide +kernel
theorem dX12_readProduct_102 : decode cX12_readProduct 102 = .ok (.ireturn, 1) := by decide +kernel
theorem dX12_readSum_0 : decode cX12_readSum 0 = .ok (.aload_n 0, 1) := by decide +kernel
theorem dX12_readSum_1 : decode cX12_readSum 1 = .ok (.invokevirtual 265, 3) := by decide +kernel
theorem dX12_readSum_4 : decode cX12_readSum 4 = .ok (.iconst (-1), 1) := by decide +kernel
theorem dX12_readSum_5 : decode cX12_readSum 5 = .ok (.if_icmp .ne 5, 3) := by decide +kernel
theorem dX12_readSum_8 : decode cX12_readSum 8 = .ok (.iconst (-1), 1) := by decide +kernel
theorem dX12_readSum_9 : decode cX12_readSum 9 = .ok (.ireturn, 1) := by decide +kernel
theorem dX12_readSum_10 : decode cX12_readSum 10 = .ok (.aload_n 0, 1) := by decide +kernel
theorem dX12_readSum_11 : decode cX12_readSum 11 = .ok (.bipush 43, 2) := by decide +kernel
theorem dX12_readSum_13 : decode cX12_readSum 13 = .ok (.invokevirtual 262, 3) := by decide +kernel
theorem dX12_readSum_16 : decode cX12_readSum 16 = .ok (.ifCond .ne 12, 3) := by decide +kernel
theorem dX12_readSum_19 : decode cX12_readSum 19 = .ok (.aload_n 0, 1) := by decide +kernel
theorem dX12_readSum_20 : decode cX12_readSum 20 = .ok (.bipush 45, 2) := by decide +kernel
theorem dX12_readSum_22 : decode cX12_readSum 22 = .ok (.invokevirtual 262, 3) := by decide +kernel
theorem dX12_readSum_25 : decode cX12_readSum 25 = .ok (.ifCond .eq 41, 3) := by decide +kernel
theorem dX12_readSum_28 : decode cX12_readSum 28 = .ok (.aload_n 0, 1) := by decide +kernel
theorem dX12_readSum_29 : decode cX12_readSum 29 = .ok (.getfield 224, 3) := by decide +kernel
theorem dX12_readSum_32 : decode cX12_readSum 32 = .ok (.bipush 43, 2) := by decide +kernel
theorem dX12_readSum_34 : decode cX12_readSum 34 = .ok (.if_icmp .ne 7, 3) := by decide +kernel
theorem dX12_readSum_37 : decode cX12_readSum 37 = .ok (.iconst 2, 1) := by decide +kernel
theorem dX12_readSum_38 : decode cX12_readSum 38 = .ok (.goto 4, 3) := by decide +kernel
theorem dX12_readSum_41 : decode cX12_readSum 41 = .ok (.iconst 3, 1) := by decide +kernel
theorem dX12_readSum_42 : decode cX12_readSum 42 = .ok (.istore_n 1, 1) := by decide +kernel
theorem dX12_readSum_43 : decode cX12_readSum 43 = .ok (.aload_n 0, 1) := by decide +kernel
theorem dX12_readSum_44 : decode cX12_readSum 44 = .ok (.invokevirtual 255, 3) := by decide +kernel
theorem dX12_readSum_47 : decode cX12_readSum 47 = .ok (.aload_n 0, 1) := by decide +kernel
theorem dX12_readSum_48 : decode cX12_readSum 48 = .ok (.invokevirtual 265, 3) := by decide +kernel
theorem dX12_readSum_51 : decode cX12_readSum 51 = .ok (.iconst (-1), 1) := by decide +kernel
theorem dX12_readSum_52 : decode cX12_readSum 52 = .ok (.if_icmp .ne 5, 3) := by decide +kernel
theorem dX12_readSum_55 : decode cX12_readSum 55 = .ok (.iconst (-1), 1) := by decide +kernel
theorem dX12_readSum_56 : decode cX12_readSum 56 = .ok (.ireturn, 1) := by decide +kernel
theorem dX12_readSum_57 : decode cX12_readSum 57 = .ok (.aload_n 0, 1) := by decide +kernel
theorem dX12_readSum_58 : decode cX12_readSum 58 = .ok (.iload_n 1, 1) := by decide +kernel
theorem dX12_readSum_59 : decode cX12_readSum 59 = .ok (.iconst 0, 1) := by decide +kernel
theorem dX12_readSum_60 : decode cX12_readSum 60 = .ok (.invokevirtual 252, 3) := by decide +kernel
theorem dX12_readSum_63 : decode cX12_readSum 63 = .ok (.goto (-53), 3) := by decide +kernel
theorem dX12_readSum_66 : decode cX12_readSum 66 = .ok (.iconst 0, 1) := by decide +kernel
theorem dX12_readSum_67 : decode cX12_readSum 67 = .ok (.ireturn, 1) := by decide +kernel
theorem dX12_readCompared_0 : decode cX12_readCompared 0 = .ok (.aload_n 0, 1) := by decide +kernel
theorem dX12_readCompared_1 : decode cX12_readCompared 1 = .ok (.invokevirtual 268, 3) := by decide +kernel
theorem dX12_readCompared_4 : decode cX12_readCompared 4 = .ok (.iconst (-1), 1) := by decide +kernel
theorem dX12_readCompared_5 : decode cX12_readCompared 5 = .ok (.if_icmp .ne 5, 3) := by decide +kernel
theorem dX12_readCompared_8 : decode cX12_readCompared 8 = .ok (.iconst (-1), 1) := by decide +kernel
theorem dX12_readCompared_9 : decode cX12_readCompared 9 = .ok (.ireturn, 1) := by decide +kernel
theorem dX12_readCompared_10 : decode cX12_readCompared 10 = .ok (.aload_n 0, 1) := by decide +kernel
theorem dX12_readCompared_11 : decode cX12_readCompared 11 = .ok (.bipush 60, 2) := by decide +kernel
theorem dX12_readCompared_13 : decode cX12_readCompared 13 = .ok (.invokevirtual 262, 3) := by decide +kernel
theorem dX12_readCompared_16 : decode cX12_readCompared 16 = .ok (.ifCond .ne 27, 3) := by decide +kernel
theorem dX12_readCompared_19 : decode cX12_readCompared 19 = .ok (.aload_n 0, 1) := by decide +kernel
theorem dX12_readCompared_20 : decode cX12_readCompared 20 = .ok (.bipush 61, 2) := by decide +kernel
theorem dX12_readCompared_22 : decode cX12_readCompared 22 = .ok (.invokevirtual 262, 3) := by decide +kernel
theorem dX12_readCompared_25 : decode cX12_readCompared 25 = .ok (.ifCond .ne 18, 3) := by decide +kernel
theorem dX12_readCompared_28 : decode cX12_readCompared 28 = .ok (.aload_n 0, 1) := by decide +kernel
theorem dX12_readCompared_29 : decode cX12_readCompared 29 = .ok (.bipush 62, 2) := by decide +kernel
theorem dX12_readCompared_31 : decode cX12_readCompared 31 = .ok (.invokevirtual 262, 3) := by decide +kernel
theorem dX12_readCompared_34 : decode cX12_readCompared 34 = .ok (.ifCond .ne 9, 3) := by decide +kernel
theorem dX12_readCompared_37 : decode cX12_readCompared 37 = .ok (.aload_n 0, 1) := by decide +kernel
theorem dX12_readCompared_38 : decode cX12_readCompared 38 = .ok (.iconst 1, 1) := by decide +kernel
theorem dX12_readCompared_39 : decode cX12_readCompared 39 = .ok (.invokevirtual 249, 3) := by decide +kernel
theorem dX12_readCompared_42 : decode cX12_readCompared 42 = .ok (.ireturn, 1) := by decide +kernel
theorem dX12_readCompared_43 : decode cX12_readCompared 43 = .ok (.aload_n 0, 1) := by decide +kernel
theorem dX12_readCompared_44 : decode cX12_readCompared 44 = .ok (.getfield 224, 3) := by decide +kernel
theorem dX12_readCompared_47 : decode cX12_readCompared 47 = .ok (.bipush 60, 2) := by decide +kernel
theorem dX12_readCompared_49 : decode cX12_readCompared 49 = .ok (.if_icmp .ne 8, 3) := by decide +kernel
theorem dX12_readCompared_52 : decode cX12_readCompared 52 = .ok (.bipush 6, 2) := by decide +kernel
theorem dX12_readCompared_54 : decode cX12_readCompared 54 = .ok (.goto 19, 3) := by decide +kernel
theorem dX12_readCompared_57 : decode cX12_readCompared 57 = .ok (.aload_n 0, 1) := by decide +kernel
theorem dX12_readCompared_58 : decode cX12_readCompared 58 = .ok (.getfield 224, 3) := by decide +kernel
theorem dX12_readCompared_61 : decode cX12_readCompared 61 = .ok (.bipush 61, 2) := by decide +kernel
theorem dX12_readCompared_63 : decode cX12_readCompared 63 = .ok (.if_icmp .ne 8, 3) := by decide +kernel
theorem dX12_readCompared_66 : decode cX12_readCompared 66 = .ok (.bipush 7, 2) := by decide +kernel
theorem dX12_readCompared_68 : decode cX12_readCompared 68 = .ok (.goto 5, 3) := by decide +kernel
theorem dX12_readCompared_71 : decode cX12_readCompared 71 = .ok (.bipush 8, 2) := by decide +kernel
theorem dX12_readCompared_73 : decode cX12_readCompared 73 = .ok (.istore_n 1, 1) := by decide +kernel
theorem dX12_readCompared_74 : decode cX12_readCompared 74 = .ok (.aload_n 0, 1) := by decide +kernel
theorem dX12_readCompared_75 : decode cX12_readCompared 75 = .ok (.invokevirtual 255, 3) := by decide +kernel
theorem dX12_readCompared_78 : decode cX12_readCompared 78 = .ok (.aload_n 0, 1) := by decide +kernel
theorem dX12_readCompared_79 : decode cX12_readCompared 79 = .ok (.invokevirtual 268, 3) := by decide +kernel
theorem dX12_readCompared_82 : decode cX12_readCompared 82 = .ok (.iconst (-1), 1) := by decide +kernel
theorem dX12_readCompared_83 : decode cX12_readCompared 83 = .ok (.if_icmp .ne 5, 3) := by decide +kernel
theorem dX12_readCompared_86 : decode cX12_readCompared 86 = .ok (.iconst (-1), 1) := by decide +kernel
theorem dX12_readCompared_87 : decode cX12_readCompared 87 = .ok (.ireturn, 1) := by decide +kernel
theorem dX12_readCompared_88 : decode cX12_readCompared 88 = .ok (.aload_n 0, 1) := by decide +kernel
theorem dX12_readCompared_89 : decode cX12_readCompared 89 = .ok (.iload_n 1, 1) := by decide +kernel
theorem dX12_readCompared_90 : decode cX12_readCompared 90 = .ok (.iconst 0, 1) := by decide +kernel
theorem dX12_readCompared_91 : decode cX12_readCompared 91 = .ok (.invokevirtual 252, 3) := by decide +kernel
theorem dX12_readCompared_94 : decode cX12_readCompared 94 = .ok (.iconst 0, 1) := by decide +kernel
theorem dX12_readCompared_95 : decode cX12_readCompared 95 = .ok (.ireturn, 1) := by decide +kernel
theorem dX12_waits_0 : decode cX12_waits 0 = .ok (.aload_n 0, 1) := by decide +kernel
theorem dX12_waits_1 : decode cX12_waits 1 = .ok (.getfield 80, 3) := by decide +kernel
theorem dX12_waits_4 : decode cX12_waits 4 = .ok (.aload_n 0, 1) := by decide +kernel
theorem dX12_waits_5 : decode cX12_waits 5 = .ok (.getfield 271, 3) := by decide +kernel
theorem dX12_waits_8 : decode cX12_waits 8 = .ok (.iload_n 1, 1) := by decide +kernel
theorem dX12_waits_9 : decode cX12_waits 9 = .ok (.iastore, 1) := by decide +kernel
theorem dX12_waits_10 : decode cX12_waits 10 = .ok (.aload_n 0, 1) := by decide +kernel
theorem dX12_waits_11 : decode cX12_waits 11 = .ok (.aload_n 0, 1) := by decide +kernel
theorem dX12_waits_12 : decode cX12_waits 12 = .ok (.getfield 271, 3) := by decide +kernel
theorem dX12_waits_15 : decode cX12_waits 15 = .ok (.iconst 1, 1) := by decide +kernel
theorem dX12_waits_16 : decode cX12_waits 16 = .ok (.iadd, 1) := by decide +kernel
theorem dX12_waits_17 : decode cX12_waits 17 = .ok (.putfield 271, 3) := by decide +kernel
theorem dX12_waits_20 : decode cX12_waits 20 = .ok (.return_, 1) := by decide +kernel
theorem dX12_settles_0 : decode cX12_settles 0 = .ok (.aload_n 0, 1) := by decide +kernel
theorem dX12_settles_1 : decode cX12_settles 1 = .ok (.getfield 271, 3) := by decide +kernel
theorem dX12_settles_4 : decode cX12_settles 4 = .ok (.ifCond .le 53, 3) := by decide +kernel
theorem dX12_settles_7 : decode cX12_settles 7 = .ok (.aload_n 0, 1) := by decide +kernel
theorem dX12_settles_8 : decode cX12_settles 8 = .ok (.getfield 80, 3) := by decide +kernel
theorem dX12_settles_11 : decode cX12_settles 11 = .ok (.aload_n 0, 1) := by decide +kernel
theorem dX12_settles_12 : decode cX12_settles 12 = .ok (.getfield 271, 3) := by decide +kernel
theorem dX12_settles_15 : decode cX12_settles 15 = .ok (.iconst 1, 1) := by decide +kernel
theorem dX12_settles_16 : decode cX12_settles 16 = .ok (.isub, 1) := by decide +kernel
theorem dX12_settles_17 : decode cX12_settles 17 = .ok (.iaload, 1) := by decide +kernel
theorem dX12_settles_18 : decode cX12_settles 18 = .ok (.iload_n 1, 1) := by decide +kernel
theorem dX12_settles_19 : decode cX12_settles 19 = .ok (.if_icmp .ne 38, 3) := by decide +kernel
theorem dX12_settles_22 : decode cX12_settles 22 = .ok (.aload_n 0, 1) := by decide +kernel
theorem dX12_settles_23 : decode cX12_settles 23 = .ok (.aload_n 0, 1) := by decide +kernel
theorem dX12_settles_24 : decode cX12_settles 24 = .ok (.getfield 271, 3) := by decide +kernel
theorem dX12_settles_27 : decode cX12_settles 27 = .ok (.iconst 1, 1) := by decide +kernel
theorem dX12_settles_28 : decode cX12_settles 28 = .ok (.isub, 1) := by decide +kernel
theorem dX12_settles_29 : decode cX12_settles 29 = .ok (.putfield 271, 3) := by decide +kernel
theorem dX12_settles_32 : decode cX12_settles 32 = .ok (.aload_n 0, 1) := by decide +kernel
theorem dX12_settles_33 : decode cX12_settles 33 = .ok (.iload_n 1, 1) := by decide +kernel
theorem dX12_settles_34 : decode cX12_settles 34 = .ok (.iconst 0, 1) := by decide +kernel
theorem dX12_settles_35 : decode cX12_settles 35 = .ok (.invokevirtual 252, 3) := by decide +kernel
theorem dX12_settles_38 : decode cX12_settles 38 = .ok (.iload_n 1, 1) := by decide +kernel
theorem dX12_settles_39 : decode cX12_settles 39 = .ok (.bipush 9, 2) := by decide +kernel
theorem dX12_settles_41 : decode cX12_settles 41 = .ok (.if_icmp .ne (-41), 3) := by decide +kernel
theorem dX12_settles_44 : decode cX12_settles 44 = .ok (.aload_n 0, 1) := by decide +kernel
theorem dX12_settles_45 : decode cX12_settles 45 = .ok (.aload_n 0, 1) := by decide +kernel
theorem dX12_settles_46 : decode cX12_settles 46 = .ok (.getfield 274, 3) := by decide +kernel
theorem dX12_settles_49 : decode cX12_settles 49 = .ok (.iconst 1, 1) := by decide +kernel
theorem dX12_settles_50 : decode cX12_settles 50 = .ok (.isub, 1) := by decide +kernel
theorem dX12_settles_51 : decode cX12_settles 51 = .ok (.putfield 274, 3) := by decide +kernel
theorem dX12_settles_54 : decode cX12_settles 54 = .ok (.goto (-54), 3) := by decide +kernel
theorem dX12_settles_57 : decode cX12_settles 57 = .ok (.return_, 1) := by decide +kernel
theorem dX12_readAny_0 : decode cX12_readAny 0 = .ok (.iconst 0, 1) := by decide +kernel
theorem dX12_readAny_1 : decode cX12_readAny 1 = .ok (.istore_n 1, 1) := by decide +kernel
theorem dX12_readAny_2 : decode cX12_readAny 2 = .ok (.aload_n 0, 1) := by decide +kernel
theorem dX12_readAny_3 : decode cX12_readAny 3 = .ok (.iconst 0, 1) := by decide +kernel
theorem dX12_readAny_4 : decode cX12_readAny 4 = .ok (.putfield 271, 3) := by decide +kernel
theorem dX12_readAny_7 : decode cX12_readAny 7 = .ok (.iconst 1, 1) := by decide +kernel
theorem dX12_readAny_8 : decode cX12_readAny 8 = .ok (.istore_n 2, 1) := by decide +kernel
theorem dX12_readAny_9 : decode cX12_readAny 9 = .ok (.iload_n 2, 1) := by decide +kernel
theorem dX12_readAny_10 : decode cX12_readAny 10 = .ok (.ifCond .eq 98, 3) := by decide +kernel
theorem dX12_readAny_13 : decode cX12_readAny 13 = .ok (.aload_n 0, 1) := by decide +kernel
theorem dX12_readAny_14 : decode cX12_readAny 14 = .ok (.iconst 5, 1) := by decide +kernel
theorem dX12_readAny_15 : decode cX12_readAny 15 = .ok (.invokevirtual 277, 3) := by decide +kernel
theorem dX12_readAny_18 : decode cX12_readAny 18 = .ok (.istore_n 3, 1) := by decide +kernel
theorem dX12_readAny_19 : decode cX12_readAny 19 = .ok (.iload_n 3, 1) := by decide +kernel
theorem dX12_readAny_20 : decode cX12_readAny 20 = .ok (.ifCond .ne 12, 3) := by decide +kernel
theorem dX12_readAny_23 : decode cX12_readAny 23 = .ok (.aload_n 0, 1) := by decide +kernel
theorem dX12_readAny_24 : decode cX12_readAny 24 = .ok (.bipush 40, 2) := by decide +kernel
theorem dX12_readAny_26 : decode cX12_readAny 26 = .ok (.invokevirtual 262, 3) := by decide +kernel
theorem dX12_readAny_29 : decode cX12_readAny 29 = .ok (.ifCond .eq 58, 3) := by decide +kernel
theorem dX12_readAny_32 : decode cX12_readAny 32 = .ok (.aload_n 0, 1) := by decide +kernel
theorem dX12_readAny_33 : decode cX12_readAny 33 = .ok (.getfield 274, 3) := by decide +kernel
theorem dX12_readAny_36 : decode cX12_readAny 36 = .ok (.bipush 8, 2) := by decide +kernel
theorem dX12_readAny_38 : decode cX12_readAny 38 = .ok (.if_icmp .ne 9, 3) := by decide +kernel
theorem dX12_readAny_41 : decode cX12_readAny 41 = .ok (.aload_n 0, 1) := by decide +kernel
theorem dX12_readAny_42 : decode cX12_readAny 42 = .ok (.iconst 3, 1) := by decide +kernel
theorem dX12_readAny_43 : decode cX12_readAny 43 = .ok (.invokevirtual 249, 3) := by decide +kernel
theorem dX12_readAny_46 : decode cX12_readAny 46 = .ok (.ireturn, 1) := by decide +kernel
theorem dX12_readAny_47 : decode cX12_readAny 47 = .ok (.aload_n 0, 1) := by decide +kernel
theorem dX12_readAny_48 : decode cX12_readAny 48 = .ok (.aload_n 0, 1) := by decide +kernel
theorem dX12_readAny_49 : decode cX12_readAny 49 = .ok (.getfield 274, 3) := by decide +kernel
theorem dX12_readAny_52 : decode cX12_readAny 52 = .ok (.iconst 1, 1) := by decide +kernel
theorem dX12_readAny_53 : decode cX12_readAny 53 = .ok (.iadd, 1) := by decide +kernel
theorem dX12_readAny_54 : decode cX12_readAny 54 = .ok (.putfield 274, 3) := by decide +kernel
theorem dX12_readAny_57 : decode cX12_readAny 57 = .ok (.iload_n 3, 1) := by decide +kernel
theorem dX12_readAny_58 : decode cX12_readAny 58 = .ok (.ifCond .ne 7, 3) := by decide +kernel
theorem dX12_readAny_61 : decode cX12_readAny 61 = .ok (.iload_n 1, 1) := by decide +kernel
theorem dX12_readAny_62 : decode cX12_readAny 62 = .ok (.iconst 1, 1) := by decide +kernel
theorem dX12_readAny_63 : decode cX12_readAny 63 = .ok (.iadd, 1) := by decide +kernel
theorem dX12_readAny_64 : decode cX12_readAny 64 = .ok (.istore_n 1, 1) := by decide +kernel
theorem dX12_readAny_65 : decode cX12_readAny 65 = .ok (.aload_n 0, 1) := by decide +kernel
theorem dX12_readAny_66 : decode cX12_readAny 66 = .ok (.iload_n 3, 1) := by decide +kernel
theorem dX12_readAny_67 : decode cX12_readAny 67 = .ok (.ifCond .eq 8, 3) := by decide +kernel
theorem dX12_readAny_70 : decode cX12_readAny 70 = .ok (.bipush 9, 2) := by decide +kernel
theorem dX12_readAny_72 : decode cX12_readAny 72 = .ok (.goto 5, 3) := by decide +kernel
theorem dX12_readAny_75 : decode cX12_readAny 75 = .ok (.bipush 12, 2) := by decide +kernel
theorem dX12_readAny_77 : decode cX12_readAny 77 = .ok (.invokevirtual 280, 3) := by decide +kernel
theorem dX12_readAny_80 : decode cX12_readAny 80 = .ok (.aload_n 0, 1) := by decide +kernel
theorem dX12_readAny_81 : decode cX12_readAny 81 = .ok (.invokevirtual 255, 3) := by decide +kernel
theorem dX12_readAny_84 : decode cX12_readAny 84 = .ok (.goto (-75), 3) := by decide +kernel
theorem dX12_readAny_87 : decode cX12_readAny 87 = .ok (.aload_n 0, 1) := by decide +kernel
theorem dX12_readAny_88 : decode cX12_readAny 88 = .ok (.invokevirtual 283, 3) := by decide +kernel
theorem dX12_readAny_91 : decode cX12_readAny 91 = .ok (.iconst (-1), 1) := by decide +kernel
theorem dX12_readAny_92 : decode cX12_readAny 92 = .ok (.if_icmp .ne 5, 3) := by decide +kernel
theorem dX12_readAny_95 : decode cX12_readAny 95 = .ok (.iconst (-1), 1) := by decide +kernel
theorem dX12_readAny_96 : decode cX12_readAny 96 = .ok (.ireturn, 1) := by decide +kernel
theorem dX12_readAny_97 : decode cX12_readAny 97 = .ok (.aload_n 0, 1) := by decide +kernel
theorem dX12_readAny_98 : decode cX12_readAny 98 = .ok (.bipush 9, 2) := by decide +kernel
theorem dX12_readAny_100 : decode cX12_readAny 100 = .ok (.invokevirtual 286, 3) := by decide +kernel
theorem dX12_readAny_103 : decode cX12_readAny 103 = .ok (.iconst 0, 1) := by decide +kernel
theorem dX12_readAny_104 : decode cX12_readAny 104 = .ok (.istore_n 2, 1) := by decide +kernel
theorem dX12_readAny_105 : decode cX12_readAny 105 = .ok (.goto (-96), 3) := by decide +kernel
theorem dX12_readAny_108 : decode cX12_readAny 108 = .ok (.aload_n 0, 1) := by decide +kernel
theorem dX12_readAny_109 : decode cX12_readAny 109 = .ok (.iconst 4, 1) := by decide +kernel
theorem dX12_readAny_110 : decode cX12_readAny 110 = .ok (.invokevirtual 277, 3) := by decide +kernel
theorem dX12_readAny_113 : decode cX12_readAny 113 = .ok (.ifCond .eq 24, 3) := by decide +kernel
theorem dX12_readAny_116 : decode cX12_readAny 116 = .ok (.aload_n 0, 1) := by decide +kernel
theorem dX12_readAny_117 : decode cX12_readAny 117 = .ok (.bipush 10, 2) := by decide +kernel
theorem dX12_readAny_119 : decode cX12_readAny 119 = .ok (.invokevirtual 286, 3) := by decide +kernel
theorem dX12_readAny_122 : decode cX12_readAny 122 = .ok (.aload_n 0, 1) := by decide +kernel
theorem dX12_readAny_123 : decode cX12_readAny 123 = .ok (.bipush 10, 2) := by decide +kernel
theorem dX12_readAny_125 : decode cX12_readAny 125 = .ok (.invokevirtual 280, 3) := by decide +kernel
theorem dX12_readAny_128 : decode cX12_readAny 128 = .ok (.aload_n 0, 1) := by decide +kernel
theorem dX12_readAny_129 : decode cX12_readAny 129 = .ok (.invokevirtual 255, 3) := by decide +kernel
theorem dX12_readAny_132 : decode cX12_readAny 132 = .ok (.iconst 1, 1) := by decide +kernel
theorem dX12_readAny_133 : decode cX12_readAny 133 = .ok (.istore_n 2, 1) := by decide +kernel
theorem dX12_readAny_134 : decode cX12_readAny 134 = .ok (.goto (-125), 3) := by decide +kernel
theorem dX12_readAny_137 : decode cX12_readAny 137 = .ok (.aload_n 0, 1) := by decide +kernel
theorem dX12_readAny_138 : decode cX12_readAny 138 = .ok (.iconst 3, 1) := by decide +kernel
theorem dX12_readAny_139 : decode cX12_readAny 139 = .ok (.invokevirtual 277, 3) := by decide +kernel
theorem dX12_readAny_142 : decode cX12_readAny 142 = .ok (.ifCond .eq 30, 3) := by decide +kernel
theorem dX12_readAny_145 : decode cX12_readAny 145 = .ok (.aload_n 0, 1) := by decide +kernel
theorem dX12_readAny_146 : decode cX12_readAny 146 = .ok (.bipush 10, 2) := by decide +kernel
theorem dX12_readAny_148 : decode cX12_readAny 148 = .ok (.invokevirtual 286, 3) := by decide +kernel
theorem dX12_readAny_151 : decode cX12_readAny 151 = .ok (.aload_n 0, 1) := by decide +kernel
theorem dX12_readAny_152 : decode cX12_readAny 152 = .ok (.bipush 11, 2) := by decide +kernel
theorem dX12_readAny_154 : decode cX12_readAny 154 = .ok (.invokevirtual 286, 3) := by decide +kernel
theorem dX12_readAny_157 : decode cX12_readAny 157 = .ok (.aload_n 0, 1) := by decide +kernel
theorem dX12_readAny_158 : decode cX12_readAny 158 = .ok (.bipush 11, 2) := by decide +kernel
theorem dX12_readAny_160 : decode cX12_readAny 160 = .ok (.invokevirtual 280, 3) := by decide +kernel
theorem dX12_readAny_163 : decode cX12_readAny 163 = .ok (.aload_n 0, 1) := by decide +kernel
theorem dX12_readAny_164 : decode cX12_readAny 164 = .ok (.invokevirtual 255, 3) := by decide +kernel
theorem dX12_readAny_167 : decode cX12_readAny 167 = .ok (.iconst 1, 1) := by decide +kernel
theorem dX12_readAny_168 : decode cX12_readAny 168 = .ok (.istore_n 2, 1) := by decide +kernel
theorem dX12_readAny_169 : decode cX12_readAny 169 = .ok (.goto (-160), 3) := by decide +kernel
theorem dX12_readAny_172 : decode cX12_readAny 172 = .ok (.aload_n 0, 1) := by decide +kernel
theorem dX12_readAny_173 : decode cX12_readAny 173 = .ok (.bipush 10, 2) := by decide +kernel
theorem dX12_readAny_175 : decode cX12_readAny 175 = .ok (.invokevirtual 286, 3) := by decide +kernel
theorem dX12_readAny_178 : decode cX12_readAny 178 = .ok (.aload_n 0, 1) := by decide +kernel
theorem dX12_readAny_179 : decode cX12_readAny 179 = .ok (.bipush 11, 2) := by decide +kernel
theorem dX12_readAny_181 : decode cX12_readAny 181 = .ok (.invokevirtual 286, 3) := by decide +kernel
theorem dX12_readAny_184 : decode cX12_readAny 184 = .ok (.iload_n 1, 1) := by decide +kernel
theorem dX12_readAny_185 : decode cX12_readAny 185 = .ok (.ifCond .ne 5, 3) := by decide +kernel
theorem dX12_readAny_188 : decode cX12_readAny 188 = .ok (.iconst 0, 1) := by decide +kernel
theorem dX12_readAny_189 : decode cX12_readAny 189 = .ok (.ireturn, 1) := by decide +kernel
theorem dX12_readAny_190 : decode cX12_readAny 190 = .ok (.aload_n 0, 1) := by decide +kernel
theorem dX12_readAny_191 : decode cX12_readAny 191 = .ok (.bipush 41, 2) := by decide +kernel
theorem dX12_readAny_193 : decode cX12_readAny 193 = .ok (.invokevirtual 262, 3) := by decide +kernel
theorem dX12_readAny_196 : decode cX12_readAny 196 = .ok (.ifCond .ne 9, 3) := by decide +kernel
theorem dX12_readAny_199 : decode cX12_readAny 199 = .ok (.aload_n 0, 1) := by decide +kernel
theorem dX12_readAny_200 : decode cX12_readAny 200 = .ok (.iconst 1, 1) := by decide +kernel
theorem dX12_readAny_201 : decode cX12_readAny 201 = .ok (.invokevirtual 249, 3) := by decide +kernel
theorem dX12_readAny_204 : decode cX12_readAny 204 = .ok (.ireturn, 1) := by decide +kernel
theorem dX12_readAny_205 : decode cX12_readAny 205 = .ok (.aload_n 0, 1) := by decide +kernel
theorem dX12_readAny_206 : decode cX12_readAny 206 = .ok (.aload_n 0, 1) := by decide +kernel
theorem dX12_readAny_207 : decode cX12_readAny 207 = .ok (.getfield 271, 3) := by decide +kernel
theorem dX12_readAny_210 : decode cX12_readAny 210 = .ok (.iconst 1, 1) := by decide +kernel
theorem dX12_readAny_211 : decode cX12_readAny 211 = .ok (.isub, 1) := by decide +kernel
theorem dX12_readAny_212 : decode cX12_readAny 212 = .ok (.putfield 271, 3) := by decide +kernel
theorem dX12_readAny_215 : decode cX12_readAny 215 = .ok (.iload_n 1, 1) := by decide +kernel
theorem dX12_readAny_216 : decode cX12_readAny 216 = .ok (.iconst 1, 1) := by decide +kernel
theorem dX12_readAny_217 : decode cX12_readAny 217 = .ok (.isub, 1) := by decide +kernel
theorem dX12_readAny_218 : decode cX12_readAny 218 = .ok (.istore_n 1, 1) := by decide +kernel
theorem dX12_readAny_219 : decode cX12_readAny 219 = .ok (.aload_n 0, 1) := by decide +kernel
theorem dX12_readAny_220 : decode cX12_readAny 220 = .ok (.aload_n 0, 1) := by decide +kernel
theorem dX12_readAny_221 : decode cX12_readAny 221 = .ok (.getfield 274, 3) := by decide +kernel
theorem dX12_readAny_224 : decode cX12_readAny 224 = .ok (.iconst 1, 1) := by decide +kernel
theorem dX12_readAny_225 : decode cX12_readAny 225 = .ok (.isub, 1) := by decide +kernel
theorem dX12_readAny_226 : decode cX12_readAny 226 = .ok (.putfield 274, 3) := by decide +kernel
theorem dX12_readAny_229 : decode cX12_readAny 229 = .ok (.aload_n 0, 1) := by decide +kernel
theorem dX12_readAny_230 : decode cX12_readAny 230 = .ok (.bipush 9, 2) := by decide +kernel
theorem dX12_readAny_232 : decode cX12_readAny 232 = .ok (.invokevirtual 286, 3) := by decide +kernel
theorem dX12_readAny_235 : decode cX12_readAny 235 = .ok (.aload_n 0, 1) := by decide +kernel
theorem dX12_readAny_236 : decode cX12_readAny 236 = .ok (.invokevirtual 255, 3) := by decide +kernel
theorem dX12_readAny_239 : decode cX12_readAny 239 = .ok (.goto (-230), 3) := by decide +kernel
theorem dX12_readText_0 : decode cX12_readText 0 = .ok (.iconst 0, 1) := by decide +kernel
theorem dX12_readText_1 : decode cX12_readText 1 = .ok (.istore_n 1, 1) := by decide +kernel
theorem dX12_readText_2 : decode cX12_readText 2 = .ok (.aload_n 0, 1) := by decide +kernel
theorem dX12_readText_3 : decode cX12_readText 3 = .ok (.getfield 221, 3) := by decide +kernel
theorem dX12_readText_6 : decode cX12_readText 6 = .ok (.iconst 2, 1) := by decide +kernel
theorem dX12_readText_7 : decode cX12_readText 7 = .ok (.if_icmp .ne 110, 3) := by decide +kernel
theorem dX12_readText_10 : decode cX12_readText 10 = .ok (.aload_n 0, 1) := by decide +kernel
theorem dX12_readText_11 : decode cX12_readText 11 = .ok (.getfield 224, 3) := by decide +kernel
theorem dX12_readText_14 : decode cX12_readText 14 = .ok (.iconst 1, 1) := by decide +kernel
theorem dX12_readText_15 : decode cX12_readText 15 = .ok (.if_icmp .gt 102, 3) := by decide +kernel
theorem dX12_readText_18 : decode cX12_readText 18 = .ok (.iload_n 1, 1) := by decide +kernel
theorem dX12_readText_19 : decode cX12_readText 19 = .ok (.bipush 16, 2) := by decide +kernel
theorem dX12_readText_21 : decode cX12_readText 21 = .ok (.if_icmp .ne 9, 3) := by decide +kernel
theorem dX12_readText_24 : decode cX12_readText 24 = .ok (.aload_n 0, 1) := by decide +kernel
theorem dX12_readText_25 : decode cX12_readText 25 = .ok (.iconst 3, 1) := by decide +kernel
theorem dX12_readText_26 : decode cX12_readText 26 = .ok (.invokevirtual 249, 3) := by decide +kernel
theorem dX12_readText_29 : decode cX12_readText 29 = .ok (.ireturn, 1) := by decide +kernel
theorem dX12_readText_30 : decode cX12_readText 30 = .ok (.bipush 16, 2) := by decide +kernel
theorem dX12_readText_32 : decode cX12_readText 32 = .ok (.iload_n 1, 1) := by decide +kernel
theorem dX12_readText_33 : decode cX12_readText 33 = .ok (.iadd, 1) := by decide +kernel
theorem dX12_readText_34 : decode cX12_readText 34 = .ok (.istore_n 2, 1) := by decide +kernel
theorem dX12_readText_35 : decode cX12_readText 35 = .ok (.aload_n 0, 1) := by decide +kernel
theorem dX12_readText_36 : decode cX12_readText 36 = .ok (.getfield 65, 3) := by decide +kernel
theorem dX12_readText_39 : decode cX12_readText 39 = .ok (.iload_n 2, 1) := by decide +kernel
theorem dX12_readText_40 : decode cX12_readText 40 = .ok (.aload_n 0, 1) := by decide +kernel
theorem dX12_readText_41 : decode cX12_readText 41 = .ok (.getfield 224, 3) := by decide +kernel
theorem dX12_readText_44 : decode cX12_readText 44 = .ok (.iastore, 1) := by decide +kernel
theorem dX12_readText_45 : decode cX12_readText 45 = .ok (.aload_n 0, 1) := by decide +kernel
theorem dX12_readText_46 : decode cX12_readText 46 = .ok (.invokevirtual 255, 3) := by decide +kernel
theorem dX12_readText_49 : decode cX12_readText 49 = .ok (.aload_n 0, 1) := by decide +kernel
theorem dX12_readText_50 : decode cX12_readText 50 = .ok (.getfield 68, 3) := by decide +kernel
theorem dX12_readText_53 : decode cX12_readText 53 = .ok (.iload_n 2, 1) := by decide +kernel
theorem dX12_readText_54 : decode cX12_readText 54 = .ok (.aload_n 0, 1) := by decide +kernel
theorem dX12_readText_55 : decode cX12_readText 55 = .ok (.getfield 246, 3) := by decide +kernel
theorem dX12_readText_58 : decode cX12_readText 58 = .ok (.iastore, 1) := by decide +kernel
theorem dX12_readText_59 : decode cX12_readText 59 = .ok (.aload_n 0, 1) := by decide +kernel
theorem dX12_readText_60 : decode cX12_readText 60 = .ok (.iconst 2, 1) := by decide +kernel
theorem dX12_readText_61 : decode cX12_readText 61 = .ok (.invokevirtual 277, 3) := by decide +kernel
theorem dX12_readText_64 : decode cX12_readText 64 = .ok (.ifCond .eq 17, 3) := by decide +kernel
theorem dX12_readText_67 : decode cX12_readText 67 = .ok (.aload_n 0, 1) := by decide +kernel
theorem dX12_readText_68 : decode cX12_readText 68 = .ok (.invokevirtual 255, 3) := by decide +kernel
theorem dX12_readText_71 : decode cX12_readText 71 = .ok (.aload_n 0, 1) := by decide +kernel
theorem dX12_readText_72 : decode cX12_readText 72 = .ok (.invokevirtual 289, 3) := by decide +kernel
theorem dX12_readText_75 : decode cX12_readText 75 = .ok (.iconst (-1), 1) := by decide +kernel
theorem dX12_readText_76 : decode cX12_readText 76 = .ok (.if_icmp .ne 5, 3) := by decide +kernel
theorem dX12_readText_79 : decode cX12_readText 79 = .ok (.iconst (-1), 1) := by decide +kernel
theorem dX12_readText_80 : decode cX12_readText 80 = .ok (.ireturn, 1) := by decide +kernel
theorem dX12_readText_81 : decode cX12_readText 81 = .ok (.aload_n 0, 1) := by decide +kernel
theorem dX12_readText_82 : decode cX12_readText 82 = .ok (.getfield 71, 3) := by decide +kernel
theorem dX12_readText_85 : decode cX12_readText 85 = .ok (.iload_n 2, 1) := by decide +kernel
theorem dX12_readText_86 : decode cX12_readText 86 = .ok (.aload_n 0, 1) := by decide +kernel
theorem dX12_readText_87 : decode cX12_readText 87 = .ok (.getfield 246, 3) := by decide +kernel
theorem dX12_readText_90 : decode cX12_readText 90 = .ok (.iastore, 1) := by decide +kernel
theorem dX12_readText_91 : decode cX12_readText 91 = .ok (.aload_n 0, 1) := by decide +kernel
theorem dX12_readText_92 : decode cX12_readText 92 = .ok (.bipush 59, 2) := by decide +kernel
theorem dX12_readText_94 : decode cX12_readText 94 = .ok (.invokevirtual 262, 3) := by decide +kernel
theorem dX12_readText_97 : decode cX12_readText 97 = .ok (.ifCond .ne 9, 3) := by decide +kernel
theorem dX12_readText_100 : decode cX12_readText 100 = .ok (.aload_n 0, 1) := by decide +kernel
theorem dX12_readText_101 : decode cX12_readText 101 = .ok (.iconst 1, 1) := by decide +kernel
theorem dX12_readText_102 : decode cX12_readText 102 = .ok (.invokevirtual 249, 3) := by decide +kernel
theorem dX12_readText_105 : decode cX12_readText 105 = .ok (.ireturn, 1) := by decide +kernel
theorem dX12_readText_106 : decode cX12_readText 106 = .ok (.aload_n 0, 1) := by decide +kernel
theorem dX12_readText_107 : decode cX12_readText 107 = .ok (.invokevirtual 255, 3) := by decide +kernel
theorem dX12_readText_110 : decode cX12_readText 110 = .ok (.iload_n 1, 1) := by decide +kernel
theorem dX12_readText_111 : decode cX12_readText 111 = .ok (.iconst 1, 1) := by decide +kernel
theorem dX12_readText_112 : decode cX12_readText 112 = .ok (.iadd, 1) := by decide +kernel
theorem dX12_readText_113 : decode cX12_readText 113 = .ok (.istore_n 1, 1) := by decide +kernel
theorem dX12_readText_114 : decode cX12_readText 114 = .ok (.goto (-112), 3) := by decide +kernel
theorem dX12_readText_117 : decode cX12_readText 117 = .ok (.aload_n 0, 1) := by decide +kernel
theorem dX12_readText_118 : decode cX12_readText 118 = .ok (.getfield 221, 3) := by decide +kernel
theorem dX12_readText_121 : decode cX12_readText 121 = .ok (.ifCond .ne 7, 3) := by decide +kernel
theorem dX12_readText_124 : decode cX12_readText 124 = .ok (.iload_n 1, 1) := by decide +kernel
theorem dX12_readText_125 : decode cX12_readText 125 = .ok (.goto 8, 3) := by decide +kernel
theorem dX12_readText_128 : decode cX12_readText 128 = .ok (.aload_n 0, 1) := by decide +kernel
theorem dX12_readText_129 : decode cX12_readText 129 = .ok (.iconst 1, 1) := by decide +kernel
theorem dX12_readText_130 : decode cX12_readText 130 = .ok (.invokevirtual 249, 3) := by decide +kernel
theorem dX12_readText_133 : decode cX12_readText 133 = .ok (.ireturn, 1) := by decide +kernel
theorem dX12_text_0 : decode cX12_text 0 = .ok (.aload_n 0, 1) := by decide +kernel
theorem dX12_text_1 : decode cX12_text 1 = .ok (.iconst 0, 1) := by decide +kernel
theorem dX12_text_2 : decode cX12_text 2 = .ok (.putfield 146, 3) := by decide +kernel
theorem dX12_text_5 : decode cX12_text 5 = .ok (.aload_n 0, 1) := by decide +kernel
theorem dX12_text_6 : decode cX12_text 6 = .ok (.iconst 0, 1) := by decide +kernel
theorem dX12_text_7 : decode cX12_text 7 = .ok (.putfield 292, 3) := by decide +kernel
theorem dX12_text_10 : decode cX12_text 10 = .ok (.aload_n 0, 1) := by decide +kernel
theorem dX12_text_11 : decode cX12_text 11 = .ok (.iconst (-1), 1) := by decide +kernel
theorem dX12_text_12 : decode cX12_text 12 = .ok (.putfield 83, 3) := by decide +kernel
theorem dX12_text_15 : decode cX12_text 15 = .ok (.aload_n 0, 1) := by decide +kernel
theorem dX12_text_16 : decode cX12_text 16 = .ok (.iconst 0, 1) := by decide +kernel
theorem dX12_text_17 : decode cX12_text 17 = .ok (.putfield 212, 3) := by decide +kernel
theorem dX12_text_20 : decode cX12_text 20 = .ok (.aload_n 0, 1) := by decide +kernel
theorem dX12_text_21 : decode cX12_text 21 = .ok (.iconst 0, 1) := by decide +kernel
theorem dX12_text_22 : decode cX12_text 22 = .ok (.putfield 246, 3) := by decide +kernel
theorem dX12_text_25 : decode cX12_text 25 = .ok (.aload_n 0, 1) := by decide +kernel
theorem dX12_text_26 : decode cX12_text 26 = .ok (.iconst 0, 1) := by decide +kernel
theorem dX12_text_27 : decode cX12_text 27 = .ok (.putfield 274, 3) := by decide +kernel
theorem dX12_text_30 : decode cX12_text 30 = .ok (.aload_n 0, 1) := by decide +kernel
theorem dX12_text_31 : decode cX12_text 31 = .ok (.invokevirtual 255, 3) := by decide +kernel
theorem dX12_text_34 : decode cX12_text 34 = .ok (.aload_n 0, 1) := by decide +kernel
theorem dX12_text_35 : decode cX12_text 35 = .ok (.invokevirtual 295, 3) := by decide +kernel
theorem dX12_text_38 : decode cX12_text 38 = .ok (.istore_n 1, 1) := by decide +kernel
theorem dX12_text_39 : decode cX12_text 39 = .ok (.aload_n 0, 1) := by decide +kernel
theorem dX12_text_40 : decode cX12_text 40 = .ok (.iconst 0, 1) := by decide +kernel
theorem dX12_text_41 : decode cX12_text 41 = .ok (.putfield 157, 3) := by decide +kernel
theorem dX12_text_44 : decode cX12_text 44 = .ok (.iload_n 1, 1) := by decide +kernel
theorem dX12_text_45 : decode cX12_text 45 = .ok (.iconst (-1), 1) := by decide +kernel
theorem dX12_text_46 : decode cX12_text 46 = .ok (.if_icmp .ne 21, 3) := by decide +kernel
theorem dX12_text_49 : decode cX12_text 49 = .ok (.aload_n 0, 1) := by decide +kernel
theorem dX12_text_50 : decode cX12_text 50 = .ok (.aload_n 0, 1) := by decide +kernel
theorem dX12_text_51 : decode cX12_text 51 = .ok (.getfield 240, 3) := by decide +kernel
theorem dX12_text_54 : decode cX12_text 54 = .ok (.putfield 292, 3) := by decide +kernel
theorem dX12_text_57 : decode cX12_text 57 = .ok (.aload_n 0, 1) := by decide +kernel
theorem dX12_text_58 : decode cX12_text 58 = .ok (.aload_n 0, 1) := by decide +kernel
theorem dX12_text_59 : decode cX12_text 59 = .ok (.getfield 243, 3) := by decide +kernel
theorem dX12_text_62 : decode cX12_text 62 = .ok (.putfield 83, 3) := by decide +kernel
theorem dX12_text_65 : decode cX12_text 65 = .ok (.iconst (-1), 1) := by decide +kernel
theorem dX12_text_66 : decode cX12_text 66 = .ok (.ireturn, 1) := by decide +kernel
theorem dX12_text_67 : decode cX12_text 67 = .ok (.iconst 0, 1) := by decide +kernel
theorem dX12_text_68 : decode cX12_text 68 = .ok (.istore_n 2, 1) := by decide +kernel
theorem dX12_text_69 : decode cX12_text 69 = .ok (.iload_n 2, 1) := by decide +kernel
theorem dX12_text_70 : decode cX12_text 70 = .ok (.iload_n 1, 1) := by decide +kernel
theorem dX12_text_71 : decode cX12_text 71 = .ok (.if_icmp .ge 54, 3) := by decide +kernel
theorem dX12_text_74 : decode cX12_text 74 = .ok (.aload_n 0, 1) := by decide +kernel
theorem dX12_text_75 : decode cX12_text 75 = .ok (.getfield 65, 3) := by decide +kernel
theorem dX12_text_78 : decode cX12_text 78 = .ok (.iload_n 2, 1) := by decide +kernel
theorem dX12_text_79 : decode cX12_text 79 = .ok (.aload_n 0, 1) := by decide +kernel
theorem dX12_text_80 : decode cX12_text 80 = .ok (.getfield 65, 3) := by decide +kernel
theorem dX12_text_83 : decode cX12_text 83 = .ok (.bipush 16, 2) := by decide +kernel
theorem dX12_text_85 : decode cX12_text 85 = .ok (.iload_n 2, 1) := by decide +kernel
theorem dX12_text_86 : decode cX12_text 86 = .ok (.iadd, 1) := by decide +kernel
theorem dX12_text_87 : decode cX12_text 87 = .ok (.iaload, 1) := by decide +kernel
theorem dX12_text_88 : decode cX12_text 88 = .ok (.iastore, 1) := by decide +kernel
theorem dX12_text_89 : decode cX12_text 89 = .ok (.aload_n 0, 1) := by decide +kernel
theorem dX12_text_90 : decode cX12_text 90 = .ok (.getfield 68, 3) := by decide +kernel
theorem dX12_text_93 : decode cX12_text 93 = .ok (.iload_n 2, 1) := by decide +kernel
theorem dX12_text_94 : decode cX12_text 94 = .ok (.aload_n 0, 1) := by decide +kernel
theorem dX12_text_95 : decode cX12_text 95 = .ok (.getfield 68, 3) := by decide +kernel
theorem dX12_text_98 : decode cX12_text 98 = .ok (.bipush 16, 2) := by decide +kernel
theorem dX12_text_100 : decode cX12_text 100 = .ok (.iload_n 2, 1) := by decide +kernel
theorem dX12_text_101 : decode cX12_text 101 = .ok (.iadd, 1) := by decide +kernel
theorem dX12_text_102 : decode cX12_text 102 = .ok (.iaload, 1) := by decide +kernel
theorem dX12_text_103 : decode cX12_text 103 = .ok (.iastore, 1) := by decide +kernel
theorem dX12_text_104 : decode cX12_text 104 = .ok (.aload_n 0, 1) := by decide +kernel
theorem dX12_text_105 : decode cX12_text 105 = .ok (.getfield 71, 3) := by decide +kernel
theorem dX12_text_108 : decode cX12_text 108 = .ok (.iload_n 2, 1) := by decide +kernel
theorem dX12_text_109 : decode cX12_text 109 = .ok (.aload_n 0, 1) := by decide +kernel
theorem dX12_text_110 : decode cX12_text 110 = .ok (.getfield 71, 3) := by decide +kernel
theorem dX12_text_113 : decode cX12_text 113 = .ok (.bipush 16, 2) := by decide +kernel
theorem dX12_text_115 : decode cX12_text 115 = .ok (.iload_n 2, 1) := by decide +kernel
theorem dX12_text_116 : decode cX12_text 116 = .ok (.iadd, 1) := by decide +kernel
theorem dX12_text_117 : decode cX12_text 117 = .ok (.iaload, 1) := by decide +kernel
theorem dX12_text_118 : decode cX12_text 118 = .ok (.iastore, 1) := by decide +kernel
theorem dX12_text_119 : decode cX12_text 119 = .ok (.iinc 2 1, 3) := by decide +kernel
theorem dX12_text_122 : decode cX12_text 122 = .ok (.goto (-53), 3) := by decide +kernel
theorem dX12_text_125 : decode cX12_text 125 = .ok (.iconst 0, 1) := by decide +kernel
theorem dX12_text_126 : decode cX12_text 126 = .ok (.istore_n 2, 1) := by decide +kernel
theorem dX12_text_127 : decode cX12_text 127 = .ok (.iload_n 2, 1) := by decide +kernel
theorem dX12_text_128 : decode cX12_text 128 = .ok (.aload_n 0, 1) := by decide +kernel
theorem dX12_text_129 : decode cX12_text 129 = .ok (.getfield 246, 3) := by decide +kernel
theorem dX12_text_132 : decode cX12_text 132 = .ok (.if_icmp .ge 41, 3) := by decide +kernel
theorem dX12_text_135 : decode cX12_text 135 = .ok (.aload_n 0, 1) := by decide +kernel
theorem dX12_text_136 : decode cX12_text 136 = .ok (.getfield 74, 3) := by decide +kernel
theorem dX12_text_139 : decode cX12_text 139 = .ok (.iload_n 2, 1) := by decide +kernel
theorem dX12_text_140 : decode cX12_text 140 = .ok (.aload_n 0, 1) := by decide +kernel
theorem dX12_text_141 : decode cX12_text 141 = .ok (.getfield 74, 3) := by decide +kernel
theorem dX12_text_144 : decode cX12_text 144 = .ok (.sipush 400, 3) := by decide +kernel
theorem dX12_text_147 : decode cX12_text 147 = .ok (.iload_n 2, 1) := by decide +kernel
theorem dX12_text_148 : decode cX12_text 148 = .ok (.iadd, 1) := by decide +kernel
theorem dX12_text_149 : decode cX12_text 149 = .ok (.iaload, 1) := by decide +kernel
theorem dX12_text_150 : decode cX12_text 150 = .ok (.iastore, 1) := by decide +kernel
theorem dX12_text_151 : decode cX12_text 151 = .ok (.aload_n 0, 1) := by decide +kernel
theorem dX12_text_152 : decode cX12_text 152 = .ok (.getfield 77, 3) := by decide +kernel
theorem dX12_text_155 : decode cX12_text 155 = .ok (.iload_n 2, 1) := by decide +kernel
theorem dX12_text_156 : decode cX12_text 156 = .ok (.aload_n 0, 1) := by decide +kernel
theorem dX12_text_157 : decode cX12_text 157 = .ok (.getfield 77, 3) := by decide +kernel
theorem dX12_text_160 : decode cX12_text 160 = .ok (.sipush 400, 3) := by decide +kernel
theorem dX12_text_163 : decode cX12_text 163 = .ok (.iload_n 2, 1) := by decide +kernel
theorem dX12_text_164 : decode cX12_text 164 = .ok (.iadd, 1) := by decide +kernel
theorem dX12_text_165 : decode cX12_text 165 = .ok (.iaload, 1) := by decide +kernel
theorem dX12_text_166 : decode cX12_text 166 = .ok (.iastore, 1) := by decide +kernel
theorem dX12_text_167 : decode cX12_text 167 = .ok (.iinc 2 1, 3) := by decide +kernel
theorem dX12_text_170 : decode cX12_text 170 = .ok (.goto (-43), 3) := by decide +kernel
theorem dX12_text_173 : decode cX12_text 173 = .ok (.aload_n 0, 1) := by decide +kernel
theorem dX12_text_174 : decode cX12_text 174 = .ok (.iload_n 1, 1) := by decide +kernel
theorem dX12_text_175 : decode cX12_text 175 = .ok (.putfield 180, 3) := by decide +kernel
theorem dX12_text_178 : decode cX12_text 178 = .ok (.iload_n 1, 1) := by decide +kernel
theorem dX12_text_179 : decode cX12_text 179 = .ok (.ireturn, 1) := by decide +kernel
theorem dX12_fault_0 : decode cX12_fault 0 = .ok (.aload_n 0, 1) := by decide +kernel
theorem dX12_fault_1 : decode cX12_fault 1 = .ok (.iconst 0, 1) := by decide +kernel
theorem dX12_fault_2 : decode cX12_fault 2 = .ok (.putfield 146, 3) := by decide +kernel
theorem dX12_fault_5 : decode cX12_fault 5 = .ok (.iload_n 1, 1) := by decide +kernel
theorem dX12_fault_6 : decode cX12_fault 6 = .ok (.ifCond .ne 10, 3) := by decide +kernel
theorem dX12_fault_9 : decode cX12_fault 9 = .ok (.aload_n 0, 1) := by decide +kernel
theorem dX12_fault_10 : decode cX12_fault 10 = .ok (.getfield 292, 3) := by decide +kernel
theorem dX12_fault_13 : decode cX12_fault 13 = .ok (.goto 16, 3) := by decide +kernel
theorem dX12_fault_16 : decode cX12_fault 16 = .ok (.iload_n 1, 1) := by decide +kernel
theorem dX12_fault_17 : decode cX12_fault 17 = .ok (.iconst 1, 1) := by decide +kernel
theorem dX12_fault_18 : decode cX12_fault 18 = .ok (.if_icmp .ne 10, 3) := by decide +kernel
theorem dX12_fault_21 : decode cX12_fault 21 = .ok (.aload_n 0, 1) := by decide +kernel
theorem dX12_fault_22 : decode cX12_fault 22 = .ok (.getfield 83, 3) := by decide +kernel
theorem dX12_fault_25 : decode cX12_fault 25 = .ok (.goto 4, 3) := by decide +kernel
theorem dX12_fault_28 : decode cX12_fault 28 = .ok (.iconst (-1), 1) := by decide +kernel
theorem dX12_fault_29 : decode cX12_fault 29 = .ok (.ireturn, 1) := by decide +kernel
theorem dX12_twoOf_0 : decode cX12_twoOf 0 = .ok (.iload_n 1, 1) := by decide +kernel
theorem dX12_twoOf_1 : decode cX12_twoOf 1 = .ok (.iconst 2, 1) := by decide +kernel
theorem dX12_twoOf_2 : decode cX12_twoOf 2 = .ok (.if_icmp .ne 7, 3) := by decide +kernel
theorem dX12_twoOf_5 : decode cX12_twoOf 5 = .ok (.iload_n 2, 1) := by decide +kernel
theorem dX12_twoOf_6 : decode cX12_twoOf 6 = .ok (.iload_n 3, 1) := by decide +kernel
theorem dX12_twoOf_7 : decode cX12_twoOf 7 = .ok (.iadd, 1) := by decide +kernel
theorem dX12_twoOf_8 : decode cX12_twoOf 8 = .ok (.ireturn, 1) := by decide +kernel
theorem dX12_twoOf_9 : decode cX12_twoOf 9 = .ok (.iload_n 1, 1) := by decide +kernel
theorem dX12_twoOf_10 : decode cX12_twoOf 10 = .ok (.iconst 3, 1) := by decide +kernel
theorem dX12_twoOf_11 : decode cX12_twoOf 11 = .ok (.if_icmp .ne 7, 3) := by decide +kernel
theorem dX12_twoOf_14 : decode cX12_twoOf 14 = .ok (.iload_n 2, 1) := by decide +kernel
theorem dX12_twoOf_15 : decode cX12_twoOf 15 = .ok (.iload_n 3, 1) := by decide +kernel
theorem dX12_twoOf_16 : decode cX12_twoOf 16 = .ok (.isub, 1) := by decide +kernel
theorem dX12_twoOf_17 : decode cX12_twoOf 17 = .ok (.ireturn, 1) := by decide +kernel
theorem dX12_twoOf_18 : decode cX12_twoOf 18 = .ok (.iload_n 1, 1) := by decide +kernel
theorem dX12_twoOf_19 : decode cX12_twoOf 19 = .ok (.iconst 4, 1) := by decide +kernel
theorem dX12_twoOf_20 : decode cX12_twoOf 20 = .ok (.if_icmp .ne 7, 3) := by decide +kernel
theorem dX12_twoOf_23 : decode cX12_twoOf 23 = .ok (.iload_n 2, 1) := by decide +kernel
theorem dX12_twoOf_24 : decode cX12_twoOf 24 = .ok (.iload_n 3, 1) := by decide +kernel
theorem dX12_twoOf_25 : decode cX12_twoOf 25 = .ok (.imul, 1) := by decide +kernel
theorem dX12_twoOf_26 : decode cX12_twoOf 26 = .ok (.ireturn, 1) := by decide +kernel
theorem dX12_twoOf_27 : decode cX12_twoOf 27 = .ok (.iload_n 1, 1) := by decide +kernel
theorem dX12_twoOf_28 : decode cX12_twoOf 28 = .ok (.iconst 5, 1) := by decide +kernel
theorem dX12_twoOf_29 : decode cX12_twoOf 29 = .ok (.if_icmp .ne 7, 3) := by decide +kernel
theorem dX12_twoOf_32 : decode cX12_twoOf 32 = .ok (.iload_n 2, 1) := by decide +kernel
theorem dX12_twoOf_33 : decode cX12_twoOf 33 = .ok (.iload_n 3, 1) := by decide +kernel
theorem dX12_twoOf_34 : decode cX12_twoOf 34 = .ok (.idiv, 1) := by decide +kernel
theorem dX12_twoOf_35 : decode cX12_twoOf 35 = .ok (.ireturn, 1) := by decide +kernel
theorem dX12_twoOf_36 : decode cX12_twoOf 36 = .ok (.iload_n 1, 1) := by decide +kernel
theorem dX12_twoOf_37 : decode cX12_twoOf 37 = .ok (.bipush 6, 2) := by decide +kernel
theorem dX12_twoOf_39 : decode cX12_twoOf 39 = .ok (.if_icmp .ne 14, 3) := by decide +kernel
theorem dX12_twoOf_42 : decode cX12_twoOf 42 = .ok (.iload_n 2, 1) := by decide +kernel
theorem dX12_twoOf_43 : decode cX12_twoOf 43 = .ok (.iload_n 3, 1) := by decide +kernel
theorem dX12_twoOf_44 : decode cX12_twoOf 44 = .ok (.if_icmp .ge 7, 3) := by decide +kernel
theorem dX12_twoOf_47 : decode cX12_twoOf 47 = .ok (.iconst 1, 1) := by decide +kernel
theorem dX12_twoOf_48 : decode cX12_twoOf 48 = .ok (.goto 4, 3) := by decide +kernel
theorem dX12_twoOf_51 : decode cX12_twoOf 51 = .ok (.iconst 0, 1) := by decide +kernel
theorem dX12_twoOf_52 : decode cX12_twoOf 52 = .ok (.ireturn, 1) := by decide +kernel
theorem dX12_twoOf_53 : decode cX12_twoOf 53 = .ok (.iload_n 1, 1) := by decide +kernel
theorem dX12_twoOf_54 : decode cX12_twoOf 54 = .ok (.bipush 7, 2) := by decide +kernel
theorem dX12_twoOf_56 : decode cX12_twoOf 56 = .ok (.if_icmp .ne 14, 3) := by decide +kernel
theorem dX12_twoOf_59 : decode cX12_twoOf 59 = .ok (.iload_n 2, 1) := by decide +kernel
theorem dX12_twoOf_60 : decode cX12_twoOf 60 = .ok (.iload_n 3, 1) := by decide +kernel
theorem dX12_twoOf_61 : decode cX12_twoOf 61 = .ok (.if_icmp .ne 7, 3) := by decide +kernel
theorem dX12_twoOf_64 : decode cX12_twoOf 64 = .ok (.iconst 1, 1) := by decide +kernel
theorem dX12_twoOf_65 : decode cX12_twoOf 65 = .ok (.goto 4, 3) := by decide +kernel
theorem dX12_twoOf_68 : decode cX12_twoOf 68 = .ok (.iconst 0, 1) := by decide +kernel
theorem dX12_twoOf_69 : decode cX12_twoOf 69 = .ok (.ireturn, 1) := by decide +kernel
theorem dX12_twoOf_70 : decode cX12_twoOf 70 = .ok (.iload_n 1, 1) := by decide +kernel
theorem dX12_twoOf_71 : decode cX12_twoOf 71 = .ok (.bipush 8, 2) := by decide +kernel
theorem dX12_twoOf_73 : decode cX12_twoOf 73 = .ok (.if_icmp .ne 14, 3) := by decide +kernel
theorem dX12_twoOf_76 : decode cX12_twoOf 76 = .ok (.iload_n 2, 1) := by decide +kernel
theorem dX12_twoOf_77 : decode cX12_twoOf 77 = .ok (.iload_n 3, 1) := by decide +kernel
theorem dX12_twoOf_78 : decode cX12_twoOf 78 = .ok (.if_icmp .le 7, 3) := by decide +kernel
theorem dX12_twoOf_81 : decode cX12_twoOf 81 = .ok (.iconst 1, 1) := by decide +kernel
theorem dX12_twoOf_82 : decode cX12_twoOf 82 = .ok (.goto 4, 3) := by decide +kernel
theorem dX12_twoOf_85 : decode cX12_twoOf 85 = .ok (.iconst 0, 1) := by decide +kernel
theorem dX12_twoOf_86 : decode cX12_twoOf 86 = .ok (.ireturn, 1) := by decide +kernel
theorem dX12_twoOf_87 : decode cX12_twoOf 87 = .ok (.iload_n 1, 1) := by decide +kernel
theorem dX12_twoOf_88 : decode cX12_twoOf 88 = .ok (.bipush 10, 2) := by decide +kernel
theorem dX12_twoOf_90 : decode cX12_twoOf 90 = .ok (.if_icmp .ne 9, 3) := by decide +kernel
theorem dX12_twoOf_93 : decode cX12_twoOf 93 = .ok (.iload_n 2, 1) := by decide +kernel
theorem dX12_twoOf_94 : decode cX12_twoOf 94 = .ok (.iload_n 3, 1) := by decide +kernel
theorem dX12_twoOf_95 : decode cX12_twoOf 95 = .ok (.imul, 1) := by decide +kernel
theorem dX12_twoOf_96 : decode cX12_twoOf 96 = .ok (.goto 14, 3) := by decide +kernel
theorem dX12_twoOf_99 : decode cX12_twoOf 99 = .ok (.iload_n 2, 1) := by decide +kernel
theorem dX12_twoOf_100 : decode cX12_twoOf 100 = .ok (.iload_n 3, 1) := by decide +kernel
theorem dX12_twoOf_101 : decode cX12_twoOf 101 = .ok (.iadd, 1) := by decide +kernel
theorem dX12_twoOf_102 : decode cX12_twoOf 102 = .ok (.ifCond .le 7, 3) := by decide +kernel
theorem dX12_twoOf_105 : decode cX12_twoOf 105 = .ok (.iconst 1, 1) := by decide +kernel
theorem dX12_twoOf_106 : decode cX12_twoOf 106 = .ok (.goto 4, 3) := by decide +kernel
theorem dX12_twoOf_109 : decode cX12_twoOf 109 = .ok (.iconst 0, 1) := by decide +kernel
theorem dX12_twoOf_110 : decode cX12_twoOf 110 = .ok (.ireturn, 1) := by decide +kernel
theorem dX12_isSo_0 : decode cX12_isSo 0 = .ok (.aload_n 0, 1) := by decide +kernel
theorem dX12_isSo_1 : decode cX12_isSo 1 = .ok (.getfield 68, 3) := by decide +kernel
theorem dX12_isSo_4 : decode cX12_isSo 4 = .ok (.iload_n 2, 1) := by decide +kernel
theorem dX12_isSo_5 : decode cX12_isSo 5 = .ok (.iaload, 1) := by decide +kernel
theorem dX12_isSo_6 : decode cX12_isSo 6 = .ok (.aload_n 0, 1) := by decide +kernel
theorem dX12_isSo_7 : decode cX12_isSo 7 = .ok (.getfield 71, 3) := by decide +kernel
theorem dX12_isSo_10 : decode cX12_isSo 10 = .ok (.iload_n 2, 1) := by decide +kernel
theorem dX12_isSo_11 : decode cX12_isSo 11 = .ok (.iaload, 1) := by decide +kernel
theorem dX12_isSo_12 : decode cX12_isSo 12 = .ok (.if_icmp .ne 5, 3) := by decide +kernel
theorem dX12_isSo_15 : decode cX12_isSo 15 = .ok (.iconst 1, 1) := by decide +kernel
theorem dX12_isSo_16 : decode cX12_isSo 16 = .ok (.ireturn, 1) := by decide +kernel
theorem dX12_isSo_17 : decode cX12_isSo 17 = .ok (.iconst 0, 1) := by decide +kernel
theorem dX12_isSo_18 : decode cX12_isSo 18 = .ok (.istore_n 3, 1) := by decide +kernel
theorem dX12_isSo_19 : decode cX12_isSo 19 = .ok (.sipush 400, 3) := by decide +kernel
theorem dX12_isSo_22 : decode cX12_isSo 22 = .ok (.iload_n 1, 1) := by decide +kernel
theorem dX12_isSo_23 : decode cX12_isSo 23 = .ok (.imul, 1) := by decide +kernel
theorem dX12_isSo_24 : decode cX12_isSo 24 = .ok (.aload_n 0, 1) := by decide +kernel
theorem dX12_isSo_25 : decode cX12_isSo 25 = .ok (.getfield 68, 3) := by decide +kernel
theorem dX12_isSo_28 : decode cX12_isSo 28 = .ok (.iload_n 2, 1) := by decide +kernel
theorem dX12_isSo_29 : decode cX12_isSo 29 = .ok (.iaload, 1) := by decide +kernel
theorem dX12_isSo_30 : decode cX12_isSo 30 = .ok (.iadd, 1) := by decide +kernel
theorem dX12_isSo_31 : decode cX12_isSo 31 = .ok (.istore 4, 2) := by decide +kernel
theorem dX12_isSo_33 : decode cX12_isSo 33 = .ok (.iload 4, 2) := by decide +kernel
theorem dX12_isSo_35 : decode cX12_isSo 35 = .ok (.sipush 400, 3) := by decide +kernel
theorem dX12_isSo_38 : decode cX12_isSo 38 = .ok (.iload_n 1, 1) := by decide +kernel
theorem dX12_isSo_39 : decode cX12_isSo 39 = .ok (.imul, 1) := by decide +kernel
theorem dX12_isSo_40 : decode cX12_isSo 40 = .ok (.aload_n 0, 1) := by decide +kernel
theorem dX12_isSo_41 : decode cX12_isSo 41 = .ok (.getfield 71, 3) := by decide +kernel
theorem dX12_isSo_44 : decode cX12_isSo 44 = .ok (.iload_n 2, 1) := by decide +kernel
theorem dX12_isSo_45 : decode cX12_isSo 45 = .ok (.iaload, 1) := by decide +kernel
theorem dX12_isSo_46 : decode cX12_isSo 46 = .ok (.iadd, 1) := by decide +kernel
theorem dX12_isSo_47 : decode cX12_isSo 47 = .ok (.if_icmp .ge 145, 3) := by decide +kernel
theorem dX12_isSo_50 : decode cX12_isSo 50 = .ok (.aload_n 0, 1) := by decide +kernel
theorem dX12_isSo_51 : decode cX12_isSo 51 = .ok (.getfield 74, 3) := by decide +kernel
theorem dX12_isSo_54 : decode cX12_isSo 54 = .ok (.iload 4, 2) := by decide +kernel
theorem dX12_isSo_56 : decode cX12_isSo 56 = .ok (.iaload, 1) := by decide +kernel
theorem dX12_isSo_57 : decode cX12_isSo 57 = .ok (.ifCond .eq 14, 3) := by decide +kernel
theorem dX12_isSo_60 : decode cX12_isSo 60 = .ok (.aload_n 0, 1) := by decide +kernel
theorem dX12_isSo_61 : decode cX12_isSo 61 = .ok (.getfield 74, 3) := by decide +kernel
theorem dX12_isSo_64 : decode cX12_isSo 64 = .ok (.iload 4, 2) := by decide +kernel
theorem dX12_isSo_66 : decode cX12_isSo 66 = .ok (.iaload, 1) := by decide +kernel
theorem dX12_isSo_67 : decode cX12_isSo 67 = .ok (.iconst 1, 1) := by decide +kernel
theorem dX12_isSo_68 : decode cX12_isSo 68 = .ok (.if_icmp .ne 48, 3) := by decide +kernel
theorem dX12_isSo_71 : decode cX12_isSo 71 = .ok (.aload_n 0, 1) := by decide +kernel
theorem dX12_isSo_72 : decode cX12_isSo 72 = .ok (.getfield 89, 3) := by decide +kernel
theorem dX12_isSo_75 : decode cX12_isSo 75 = .ok (.iload_n 3, 1) := by decide +kernel
theorem dX12_isSo_76 : decode cX12_isSo 76 = .ok (.aload_n 0, 1) := by decide +kernel
theorem dX12_isSo_77 : decode cX12_isSo 77 = .ok (.getfield 74, 3) := by decide +kernel
theorem dX12_isSo_80 : decode cX12_isSo 80 = .ok (.iload 4, 2) := by decide +kernel
theorem dX12_isSo_82 : decode cX12_isSo 82 = .ok (.iaload, 1) := by decide +kernel
theorem dX12_isSo_83 : decode cX12_isSo 83 = .ok (.ifCond .ne 13, 3) := by decide +kernel
theorem dX12_isSo_86 : decode cX12_isSo 86 = .ok (.aload_n 0, 1) := by decide +kernel
theorem dX12_isSo_87 : decode cX12_isSo 87 = .ok (.getfield 77, 3) := by decide +kernel
theorem dX12_isSo_90 : decode cX12_isSo 90 = .ok (.iload 4, 2) := by decide +kernel
theorem dX12_isSo_92 : decode cX12_isSo 92 = .ok (.iaload, 1) := by decide +kernel
theorem dX12_isSo_93 : decode cX12_isSo 93 = .ok (.goto 15, 3) := by decide +kernel
theorem dX12_isSo_96 : decode cX12_isSo 96 = .ok (.aload_n 0, 1) := by decide +kernel
theorem dX12_isSo_97 : decode cX12_isSo 97 = .ok (.getfield 86, 3) := by decide +kernel
theorem dX12_isSo_100 : decode cX12_isSo 100 = .ok (.aload_n 0, 1) := by decide +kernel
theorem dX12_isSo_101 : decode cX12_isSo 101 = .ok (.getfield 77, 3) := by decide +kernel
theorem dX12_isSo_104 : decode cX12_isSo 104 = .ok (.iload 4, 2) := by decide +kernel
theorem dX12_isSo_106 : decode cX12_isSo 106 = .ok (.iaload, 1) := by decide +kernel
theorem dX12_isSo_107 : decode cX12_isSo 107 = .ok (.iaload, 1) := by decide +kernel
theorem dX12_isSo_108 : decode cX12_isSo 108 = .ok (.iastore, 1) := by decide +kernel
theorem dX12_isSo_109 : decode cX12_isSo 109 = .ok (.iload_n 3, 1) := by decide +kernel
theorem dX12_isSo_110 : decode cX12_isSo 110 = .ok (.iconst 1, 1) := by decide +kernel
theorem dX12_isSo_111 : decode cX12_isSo 111 = .ok (.iadd, 1) := by decide +kernel
theorem dX12_isSo_112 : decode cX12_isSo 112 = .ok (.istore_n 3, 1) := by decide +kernel
theorem dX12_isSo_113 : decode cX12_isSo 113 = .ok (.goto 73, 3) := by decide +kernel
theorem dX12_isSo_116 : decode cX12_isSo 116 = .ok (.aload_n 0, 1) := by decide +kernel
theorem dX12_isSo_117 : decode cX12_isSo 117 = .ok (.getfield 74, 3) := by decide +kernel
theorem dX12_isSo_120 : decode cX12_isSo 120 = .ok (.iload 4, 2) := by decide +kernel
theorem dX12_isSo_122 : decode cX12_isSo 122 = .ok (.iaload, 1) := by decide +kernel
theorem dX12_isSo_123 : decode cX12_isSo 123 = .ok (.bipush 9, 2) := by decide +kernel
theorem dX12_isSo_125 : decode cX12_isSo 125 = .ok (.if_icmp .ne 24, 3) := by decide +kernel
theorem dX12_isSo_128 : decode cX12_isSo 128 = .ok (.aload_n 0, 1) := by decide +kernel
theorem dX12_isSo_129 : decode cX12_isSo 129 = .ok (.getfield 89, 3) := by decide +kernel
theorem dX12_isSo_132 : decode cX12_isSo 132 = .ok (.iload_n 3, 1) := by decide +kernel
theorem dX12_isSo_133 : decode cX12_isSo 133 = .ok (.iconst 1, 1) := by decide +kernel
theorem dX12_isSo_134 : decode cX12_isSo 134 = .ok (.isub, 1) := by decide +kernel
theorem dX12_isSo_135 : decode cX12_isSo 135 = .ok (.iconst 1, 1) := by decide +kernel
theorem dX12_isSo_136 : decode cX12_isSo 136 = .ok (.aload_n 0, 1) := by decide +kernel
theorem dX12_isSo_137 : decode cX12_isSo 137 = .ok (.getfield 89, 3) := by decide +kernel
theorem dX12_isSo_140 : decode cX12_isSo 140 = .ok (.iload_n 3, 1) := by decide +kernel
theorem dX12_isSo_141 : decode cX12_isSo 141 = .ok (.iconst 1, 1) := by decide +kernel
theorem dX12_isSo_142 : decode cX12_isSo 142 = .ok (.isub, 1) := by decide +kernel
theorem dX12_isSo_143 : decode cX12_isSo 143 = .ok (.iaload, 1) := by decide +kernel
theorem dX12_isSo_144 : decode cX12_isSo 144 = .ok (.isub, 1) := by decide +kernel
theorem dX12_isSo_145 : decode cX12_isSo 145 = .ok (.iastore, 1) := by decide +kernel
theorem dX12_isSo_146 : decode cX12_isSo 146 = .ok (.goto 40, 3) := by decide +kernel
theorem dX12_isSo_149 : decode cX12_isSo 149 = .ok (.iload_n 3, 1) := by decide +kernel
theorem dX12_isSo_150 : decode cX12_isSo 150 = .ok (.iconst 1, 1) := by decide +kernel
theorem dX12_isSo_151 : decode cX12_isSo 151 = .ok (.isub, 1) := by decide +kernel
theorem dX12_isSo_152 : decode cX12_isSo 152 = .ok (.istore_n 3, 1) := by decide +kernel
theorem dX12_isSo_153 : decode cX12_isSo 153 = .ok (.aload_n 0, 1) := by decide +kernel
theorem dX12_isSo_154 : decode cX12_isSo 154 = .ok (.getfield 89, 3) := by decide +kernel
theorem dX12_isSo_157 : decode cX12_isSo 157 = .ok (.iload_n 3, 1) := by decide +kernel
theorem dX12_isSo_158 : decode cX12_isSo 158 = .ok (.iconst 1, 1) := by decide +kernel
theorem dX12_isSo_159 : decode cX12_isSo 159 = .ok (.isub, 1) := by decide +kernel
theorem dX12_isSo_160 : decode cX12_isSo 160 = .ok (.aload_n 0, 1) := by decide +kernel
theorem dX12_isSo_161 : decode cX12_isSo 161 = .ok (.aload_n 0, 1) := by decide +kernel
theorem dX12_isSo_162 : decode cX12_isSo 162 = .ok (.getfield 74, 3) := by decide +kernel
theorem dX12_isSo_165 : decode cX12_isSo 165 = .ok (.iload 4, 2) := by decide +kernel
theorem dX12_isSo_167 : decode cX12_isSo 167 = .ok (.iaload, 1) := by decide +kernel
theorem dX12_isSo_168 : decode cX12_isSo 168 = .ok (.aload_n 0, 1) := by decide +kernel
theorem dX12_isSo_169 : decode cX12_isSo 169 = .ok (.getfield 89, 3) := by decide +kernel
theorem dX12_isSo_172 : decode cX12_isSo 172 = .ok (.iload_n 3, 1) := by decide +kernel
theorem dX12_isSo_173 : decode cX12_isSo 173 = .ok (.iconst 1, 1) := by decide +kernel
theorem dX12_isSo_174 : decode cX12_isSo 174 = .ok (.isub, 1) := by decide +kernel
theorem dX12_isSo_175 : decode cX12_isSo 175 = .ok (.iaload, 1) := by decide +kernel
theorem dX12_isSo_176 : decode cX12_isSo 176 = .ok (.aload_n 0, 1) := by decide +kernel
theorem dX12_isSo_177 : decode cX12_isSo 177 = .ok (.getfield 89, 3) := by decide +kernel
theorem dX12_isSo_180 : decode cX12_isSo 180 = .ok (.iload_n 3, 1) := by decide +kernel
theorem dX12_isSo_181 : decode cX12_isSo 181 = .ok (.iaload, 1) := by decide +kernel
theorem dX12_isSo_182 : decode cX12_isSo 182 = .ok (.invokevirtual 298, 3) := by decide +kernel
theorem dX12_isSo_185 : decode cX12_isSo 185 = .ok (.iastore, 1) := by decide +kernel
theorem dX12_isSo_186 : decode cX12_isSo 186 = .ok (.iinc 4 1, 3) := by decide +kernel
theorem dX12_isSo_189 : decode cX12_isSo 189 = .ok (.goto (-156), 3) := by decide +kernel
theorem dX12_isSo_192 : decode cX12_isSo 192 = .ok (.aload_n 0, 1) := by decide +kernel
theorem dX12_isSo_193 : decode cX12_isSo 193 = .ok (.getfield 89, 3) := by decide +kernel
theorem dX12_isSo_196 : decode cX12_isSo 196 = .ok (.iconst 0, 1) := by decide +kernel
theorem dX12_isSo_197 : decode cX12_isSo 197 = .ok (.iaload, 1) := by decide +kernel
theorem dX12_isSo_198 : decode cX12_isSo 198 = .ok (.ifCond .eq 7, 3) := by decide +kernel
theorem dX12_isSo_201 : decode cX12_isSo 201 = .ok (.iconst 1, 1) := by decide +kernel
theorem dX12_isSo_202 : decode cX12_isSo 202 = .ok (.goto 4, 3) := by decide +kernel
theorem dX12_isSo_205 : decode cX12_isSo 205 = .ok (.iconst 0, 1) := by decide +kernel
theorem dX12_isSo_206 : decode cX12_isSo 206 = .ok (.ireturn, 1) := by decide +kernel
theorem dX12_takesPlaces_0 : decode cX12_takesPlaces 0 = .ok (.aload_n 0, 1) := by decide +kernel
theorem dX12_takesPlaces_1 : decode cX12_takesPlaces 1 = .ok (.invokevirtual 168, 3) := by decide +kernel
theorem dX12_takesPlaces_4 : decode cX12_takesPlaces 4 = .ok (.iconst 0, 1) := by decide +kernel
theorem dX12_takesPlaces_5 : decode cX12_takesPlaces 5 = .ok (.istore_n 2, 1) := by decide +kernel
theorem dX12_takesPlaces_6 : decode cX12_takesPlaces 6 = .ok (.iload_n 2, 1) := by decide +kernel
theorem dX12_takesPlaces_7 : decode cX12_takesPlaces 7 = .ok (.aload_n 0, 1) := by decide +kernel
theorem dX12_takesPlaces_8 : decode cX12_takesPlaces 8 = .ok (.getfield 25, 3) := by decide +kernel
theorem dX12_takesPlaces_11 : decode cX12_takesPlaces 11 = .ok (.if_icmp .ge 26, 3) := by decide +kernel
theorem dX12_takesPlaces_14 : decode cX12_takesPlaces 14 = .ok (.aload_n 0, 1) := by decide +kernel
theorem dX12_takesPlaces_15 : decode cX12_takesPlaces 15 = .ok (.getfield 92, 3) := by decide +kernel
theorem dX12_takesPlaces_18 : decode cX12_takesPlaces 18 = .ok (.aload_n 0, 1) := by decide +kernel
theorem dX12_takesPlaces_19 : decode cX12_takesPlaces 19 = .ok (.getfield 29, 3) := by decide +kernel
theorem dX12_takesPlaces_22 : decode cX12_takesPlaces 22 = .ok (.bipush 8, 2) := by decide +kernel
theorem dX12_takesPlaces_24 : decode cX12_takesPlaces 24 = .ok (.iload_n 1, 1) := by decide +kernel
theorem dX12_takesPlaces_25 : decode cX12_takesPlaces 25 = .ok (.imul, 1) := by decide +kernel
theorem dX12_takesPlaces_26 : decode cX12_takesPlaces 26 = .ok (.iload_n 2, 1) := by decide +kernel
theorem dX12_takesPlaces_27 : decode cX12_takesPlaces 27 = .ok (.iadd, 1) := by decide +kernel
theorem dX12_takesPlaces_28 : decode cX12_takesPlaces 28 = .ok (.iaload, 1) := by decide +kernel
theorem dX12_takesPlaces_29 : decode cX12_takesPlaces 29 = .ok (.iload_n 2, 1) := by decide +kernel
theorem dX12_takesPlaces_30 : decode cX12_takesPlaces 30 = .ok (.iastore, 1) := by decide +kernel
theorem dX12_takesPlaces_31 : decode cX12_takesPlaces 31 = .ok (.iinc 2 1, 3) := by decide +kernel
theorem dX12_takesPlaces_34 : decode cX12_takesPlaces 34 = .ok (.goto (-28), 3) := by decide +kernel
theorem dX12_takesPlaces_37 : decode cX12_takesPlaces 37 = .ok (.return_, 1) := by decide +kernel
theorem dX12_standsAt_0 : decode cX12_standsAt 0 = .ok (.iload_n 1, 1) := by decide +kernel
theorem dX12_standsAt_1 : decode cX12_standsAt 1 = .ok (.aload_n 0, 1) := by decide +kernel
theorem dX12_standsAt_2 : decode cX12_standsAt 2 = .ok (.getfield 25, 3) := by decide +kernel
theorem dX12_standsAt_5 : decode cX12_standsAt 5 = .ok (.if_icmp .ge 12, 3) := by decide +kernel
theorem dX12_standsAt_8 : decode cX12_standsAt 8 = .ok (.aload_n 0, 1) := by decide +kernel
theorem dX12_standsAt_9 : decode cX12_standsAt 9 = .ok (.getfield 92, 3) := by decide +kernel
theorem dX12_standsAt_12 : decode cX12_standsAt 12 = .ok (.iload_n 1, 1) := by decide +kernel
theorem dX12_standsAt_13 : decode cX12_standsAt 13 = .ok (.iaload, 1) := by decide +kernel
theorem dX12_standsAt_14 : decode cX12_standsAt 14 = .ok (.goto 24, 3) := by decide +kernel
theorem dX12_standsAt_17 : decode cX12_standsAt 17 = .ok (.aload_n 0, 1) := by decide +kernel
theorem dX12_standsAt_18 : decode cX12_standsAt 18 = .ok (.getfield 32, 3) := by decide +kernel
theorem dX12_standsAt_21 : decode cX12_standsAt 21 = .ok (.iconst 0, 1) := by decide +kernel
theorem dX12_standsAt_22 : decode cX12_standsAt 22 = .ok (.iaload, 1) := by decide +kernel
theorem dX12_standsAt_23 : decode cX12_standsAt 23 = .ok (.iconst 1, 1) := by decide +kernel
theorem dX12_standsAt_24 : decode cX12_standsAt 24 = .ok (.if_icmp .ne 10, 3) := by decide +kernel
theorem dX12_standsAt_27 : decode cX12_standsAt 27 = .ok (.iload_n 1, 1) := by decide +kernel
theorem dX12_standsAt_28 : decode cX12_standsAt 28 = .ok (.bipush 100, 2) := by decide +kernel
theorem dX12_standsAt_30 : decode cX12_standsAt 30 = .ok (.isub, 1) := by decide +kernel
theorem dX12_standsAt_31 : decode cX12_standsAt 31 = .ok (.goto 7, 3) := by decide +kernel
theorem dX12_standsAt_34 : decode cX12_standsAt 34 = .ok (.bipush 100, 2) := by decide +kernel
theorem dX12_standsAt_36 : decode cX12_standsAt 36 = .ok (.iload_n 1, 1) := by decide +kernel
theorem dX12_standsAt_37 : decode cX12_standsAt 37 = .ok (.iadd, 1) := by decide +kernel
theorem dX12_standsAt_38 : decode cX12_standsAt 38 = .ok (.ireturn, 1) := by decide +kernel
theorem dX12_isLeftOut_0 : decode cX12_isLeftOut 0 = .ok (.iload_n 1, 1) := by decide +kernel
theorem dX12_isLeftOut_1 : decode cX12_isLeftOut 1 = .ok (.aload_n 0, 1) := by decide +kernel
theorem dX12_isLeftOut_2 : decode cX12_isLeftOut 2 = .ok (.getfield 25, 3) := by decide +kernel
theorem dX12_isLeftOut_5 : decode cX12_isLeftOut 5 = .ok (.if_icmp .lt 17, 3) := by decide +kernel
theorem dX12_isLeftOut_8 : decode cX12_isLeftOut 8 = .ok (.aload_n 0, 1) := by decide +kernel
theorem dX12_isLeftOut_9 : decode cX12_isLeftOut 9 = .ok (.getfield 32, 3) := by decide +kernel
theorem dX12_isLeftOut_12 : decode cX12_isLeftOut 12 = .ok (.iconst 0, 1) := by decide +kernel
theorem dX12_isLeftOut_13 : decode cX12_isLeftOut 13 = .ok (.iaload, 1) := by decide +kernel
theorem dX12_isLeftOut_14 : decode cX12_isLeftOut 14 = .ok (.iconst 2, 1) := by decide +kernel
theorem dX12_isLeftOut_15 : decode cX12_isLeftOut 15 = .ok (.if_icmp .ne 7, 3) := by decide +kernel
theorem dX12_isLeftOut_18 : decode cX12_isLeftOut 18 = .ok (.iconst 1, 1) := by decide +kernel
theorem dX12_isLeftOut_19 : decode cX12_isLeftOut 19 = .ok (.goto 4, 3) := by decide +kernel
theorem dX12_isLeftOut_22 : decode cX12_isLeftOut 22 = .ok (.iconst 0, 1) := by decide +kernel
theorem dX12_isLeftOut_23 : decode cX12_isLeftOut 23 = .ok (.ireturn, 1) := by decide +kernel
theorem dX12_nextOf_0 : decode cX12_nextOf 0 = .ok (.iload_n 2, 1) := by decide +kernel
theorem dX12_nextOf_1 : decode cX12_nextOf 1 = .ok (.istore_n 3, 1) := by decide +kernel
theorem dX12_nextOf_2 : decode cX12_nextOf 2 = .ok (.iload_n 3, 1) := by decide +kernel
theorem dX12_nextOf_3 : decode cX12_nextOf 3 = .ok (.aload_n 0, 1) := by decide +kernel
theorem dX12_nextOf_4 : decode cX12_nextOf 4 = .ok (.getfield 7, 3) := by decide +kernel
theorem dX12_nextOf_7 : decode cX12_nextOf 7 = .ok (.iload_n 1, 1) := by decide +kernel
theorem dX12_nextOf_8 : decode cX12_nextOf 8 = .ok (.iaload, 1) := by decide +kernel
theorem dX12_nextOf_9 : decode cX12_nextOf 9 = .ok (.if_icmp .ge 28, 3) := by decide +kernel
theorem dX12_nextOf_12 : decode cX12_nextOf 12 = .ok (.aload_n 0, 1) := by decide +kernel
theorem dX12_nextOf_13 : decode cX12_nextOf 13 = .ok (.aload_n 0, 1) := by decide +kernel
theorem dX12_nextOf_14 : decode cX12_nextOf 14 = .ok (.getfield 13, 3) := by decide +kernel
theorem dX12_nextOf_17 : decode cX12_nextOf 17 = .ok (.bipush 6, 2) := by decide +kernel
theorem dX12_nextOf_19 : decode cX12_nextOf 19 = .ok (.iload_n 1, 1) := by decide +kernel
theorem dX12_nextOf_20 : decode cX12_nextOf 20 = .ok (.imul, 1) := by decide +kernel
theorem dX12_nextOf_21 : decode cX12_nextOf 21 = .ok (.iload_n 3, 1) := by decide +kernel
theorem dX12_nextOf_22 : decode cX12_nextOf 22 = .ok (.iadd, 1) := by decide +kernel
theorem dX12_nextOf_23 : decode cX12_nextOf 23 = .ok (.iaload, 1) := by decide +kernel
theorem dX12_nextOf_24 : decode cX12_nextOf 24 = .ok (.invokevirtual 302, 3) := by decide +kernel
theorem dX12_nextOf_27 : decode cX12_nextOf 27 = .ok (.ifCond .eq 10, 3) := by decide +kernel
theorem dX12_nextOf_30 : decode cX12_nextOf 30 = .ok (.iload_n 3, 1) := by decide +kernel
theorem dX12_nextOf_31 : decode cX12_nextOf 31 = .ok (.iconst 1, 1) := by decide +kernel
theorem dX12_nextOf_32 : decode cX12_nextOf 32 = .ok (.iadd, 1) := by decide +kernel
theorem dX12_nextOf_33 : decode cX12_nextOf 33 = .ok (.istore_n 3, 1) := by decide +kernel
theorem dX12_nextOf_34 : decode cX12_nextOf 34 = .ok (.goto (-32), 3) := by decide +kernel
theorem dX12_nextOf_37 : decode cX12_nextOf 37 = .ok (.iload_n 3, 1) := by decide +kernel
theorem dX12_nextOf_38 : decode cX12_nextOf 38 = .ok (.ireturn, 1) := by decide +kernel
theorem dX12_isAhead_0 : decode cX12_isAhead 0 = .ok (.aload_n 0, 1) := by decide +kernel
theorem dX12_isAhead_1 : decode cX12_isAhead 1 = .ok (.iload_n 1, 1) := by decide +kernel
theorem dX12_isAhead_2 : decode cX12_isAhead 2 = .ok (.iconst 0, 1) := by decide +kernel
theorem dX12_isAhead_3 : decode cX12_isAhead 3 = .ok (.invokevirtual 305, 3) := by decide +kernel
theorem dX12_isAhead_6 : decode cX12_isAhead 6 = .ok (.istore_n 3, 1) := by decide +kernel
theorem dX12_isAhead_7 : decode cX12_isAhead 7 = .ok (.aload_n 0, 1) := by decide +kernel
theorem dX12_isAhead_8 : decode cX12_isAhead 8 = .ok (.iload_n 2, 1) := by decide +kernel
theorem dX12_isAhead_9 : decode cX12_isAhead 9 = .ok (.iconst 0, 1) := by decide +kernel
theorem dX12_isAhead_10 : decode cX12_isAhead 10 = .ok (.invokevirtual 305, 3) := by decide +kernel
theorem dX12_isAhead_13 : decode cX12_isAhead 13 = .ok (.istore 4, 2) := by decide +kernel
theorem dX12_isAhead_15 : decode cX12_isAhead 15 = .ok (.iload_n 3, 1) := by decide +kernel
theorem dX12_isAhead_16 : decode cX12_isAhead 16 = .ok (.aload_n 0, 1) := by decide +kernel
theorem dX12_isAhead_17 : decode cX12_isAhead 17 = .ok (.getfield 7, 3) := by decide +kernel
theorem dX12_isAhead_20 : decode cX12_isAhead 20 = .ok (.iload_n 1, 1) := by decide +kernel
theorem dX12_isAhead_21 : decode cX12_isAhead 21 = .ok (.iaload, 1) := by decide +kernel
theorem dX12_isAhead_22 : decode cX12_isAhead 22 = .ok (.if_icmp .ge 92, 3) := by decide +kernel
theorem dX12_isAhead_25 : decode cX12_isAhead 25 = .ok (.iload 4, 2) := by decide +kernel
theorem dX12_isAhead_27 : decode cX12_isAhead 27 = .ok (.aload_n 0, 1) := by decide +kernel
theorem dX12_isAhead_28 : decode cX12_isAhead 28 = .ok (.getfield 7, 3) := by decide +kernel
theorem dX12_isAhead_31 : decode cX12_isAhead 31 = .ok (.iload_n 2, 1) := by decide +kernel
theorem dX12_isAhead_32 : decode cX12_isAhead 32 = .ok (.iaload, 1) := by decide +kernel
theorem dX12_isAhead_33 : decode cX12_isAhead 33 = .ok (.if_icmp .ge 81, 3) := by decide +kernel
theorem dX12_isAhead_36 : decode cX12_isAhead 36 = .ok (.aload_n 0, 1) := by decide +kernel
theorem dX12_isAhead_37 : decode cX12_isAhead 37 = .ok (.aload_n 0, 1) := by decide +kernel
theorem dX12_isAhead_38 : decode cX12_isAhead 38 = .ok (.getfield 13, 3) := by decide +kernel
theorem dX12_isAhead_41 : decode cX12_isAhead 41 = .ok (.bipush 6, 2) := by decide +kernel
theorem dX12_isAhead_43 : decode cX12_isAhead 43 = .ok (.iload_n 1, 1) := by decide +kernel
theorem dX12_isAhead_44 : decode cX12_isAhead 44 = .ok (.imul, 1) := by decide +kernel
theorem dX12_isAhead_45 : decode cX12_isAhead 45 = .ok (.iload_n 3, 1) := by decide +kernel
theorem dX12_isAhead_46 : decode cX12_isAhead 46 = .ok (.iadd, 1) := by decide +kernel
theorem dX12_isAhead_47 : decode cX12_isAhead 47 = .ok (.iaload, 1) := by decide +kernel
theorem dX12_isAhead_48 : decode cX12_isAhead 48 = .ok (.invokevirtual 308, 3) := by decide +kernel
theorem dX12_isAhead_51 : decode cX12_isAhead 51 = .ok (.istore 5, 2) := by decide +kernel
theorem dX12_isAhead_53 : decode cX12_isAhead 53 = .ok (.aload_n 0, 1) := by decide +kernel
theorem dX12_isAhead_54 : decode cX12_isAhead 54 = .ok (.aload_n 0, 1) := by decide +kernel
theorem dX12_isAhead_55 : decode cX12_isAhead 55 = .ok (.getfield 13, 3) := by decide +kernel
theorem dX12_isAhead_58 : decode cX12_isAhead 58 = .ok (.bipush 6, 2) := by decide +kernel
theorem dX12_isAhead_60 : decode cX12_isAhead 60 = .ok (.iload_n 2, 1) := by decide +kernel
theorem dX12_isAhead_61 : decode cX12_isAhead 61 = .ok (.imul, 1) := by decide +kernel
theorem dX12_isAhead_62 : decode cX12_isAhead 62 = .ok (.iload 4, 2) := by decide +kernel
theorem dX12_isAhead_64 : decode cX12_isAhead 64 = .ok (.iadd, 1) := by decide +kernel
theorem dX12_isAhead_65 : decode cX12_isAhead 65 = .ok (.iaload, 1) := by decide +kernel
theorem dX12_isAhead_66 : decode cX12_isAhead 66 = .ok (.invokevirtual 308, 3) := by decide +kernel
theorem dX12_isAhead_69 : decode cX12_isAhead 69 = .ok (.istore 6, 2) := by decide +kernel
theorem dX12_isAhead_71 : decode cX12_isAhead 71 = .ok (.iload 5, 2) := by decide +kernel
theorem dX12_isAhead_73 : decode cX12_isAhead 73 = .ok (.iload 6, 2) := by decide +kernel
theorem dX12_isAhead_75 : decode cX12_isAhead 75 = .ok (.if_icmp .eq 16, 3) := by decide +kernel
theorem dX12_isAhead_78 : decode cX12_isAhead 78 = .ok (.iload 5, 2) := by decide +kernel
theorem dX12_isAhead_80 : decode cX12_isAhead 80 = .ok (.iload 6, 2) := by decide +kernel
theorem dX12_isAhead_82 : decode cX12_isAhead 82 = .ok (.if_icmp .ge 7, 3) := by decide +kernel
theorem dX12_isAhead_85 : decode cX12_isAhead 85 = .ok (.iconst 1, 1) := by decide +kernel
theorem dX12_isAhead_86 : decode cX12_isAhead 86 = .ok (.goto 4, 3) := by decide +kernel
theorem dX12_isAhead_89 : decode cX12_isAhead 89 = .ok (.iconst 0, 1) := by decide +kernel
theorem dX12_isAhead_90 : decode cX12_isAhead 90 = .ok (.ireturn, 1) := by decide +kernel
theorem dX12_isAhead_91 : decode cX12_isAhead 91 = .ok (.aload_n 0, 1) := by decide +kernel
theorem dX12_isAhead_92 : decode cX12_isAhead 92 = .ok (.iload_n 1, 1) := by decide +kernel
theorem dX12_isAhead_93 : decode cX12_isAhead 93 = .ok (.iload_n 3, 1) := by decide +kernel
theorem dX12_isAhead_94 : decode cX12_isAhead 94 = .ok (.iconst 1, 1) := by decide +kernel
theorem dX12_isAhead_95 : decode cX12_isAhead 95 = .ok (.iadd, 1) := by decide +kernel
theorem dX12_isAhead_96 : decode cX12_isAhead 96 = .ok (.invokevirtual 305, 3) := by decide +kernel
theorem dX12_isAhead_99 : decode cX12_isAhead 99 = .ok (.istore_n 3, 1) := by decide +kernel
theorem dX12_isAhead_100 : decode cX12_isAhead 100 = .ok (.aload_n 0, 1) := by decide +kernel
theorem dX12_isAhead_101 : decode cX12_isAhead 101 = .ok (.iload_n 2, 1) := by decide +kernel
theorem dX12_isAhead_102 : decode cX12_isAhead 102 = .ok (.iload 4, 2) := by decide +kernel
theorem dX12_isAhead_104 : decode cX12_isAhead 104 = .ok (.iconst 1, 1) := by decide +kernel
theorem dX12_isAhead_105 : decode cX12_isAhead 105 = .ok (.iadd, 1) := by decide +kernel
theorem dX12_isAhead_106 : decode cX12_isAhead 106 = .ok (.invokevirtual 305, 3) := by decide +kernel
theorem dX12_isAhead_109 : decode cX12_isAhead 109 = .ok (.istore 4, 2) := by decide +kernel
theorem dX12_isAhead_111 : decode cX12_isAhead 111 = .ok (.goto (-96), 3) := by decide +kernel
theorem dX12_isAhead_114 : decode cX12_isAhead 114 = .ok (.iload_n 3, 1) := by decide +kernel
theorem dX12_isAhead_115 : decode cX12_isAhead 115 = .ok (.aload_n 0, 1) := by decide +kernel
theorem dX12_isAhead_116 : decode cX12_isAhead 116 = .ok (.getfield 7, 3) := by decide +kernel
theorem dX12_isAhead_119 : decode cX12_isAhead 119 = .ok (.iload_n 1, 1) := by decide +kernel
theorem dX12_isAhead_120 : decode cX12_isAhead 120 = .ok (.iaload, 1) := by decide +kernel
theorem dX12_isAhead_121 : decode cX12_isAhead 121 = .ok (.if_icmp .lt 14, 3) := by decide +kernel
theorem dX12_isAhead_124 : decode cX12_isAhead 124 = .ok (.iload 4, 2) := by decide +kernel
theorem dX12_isAhead_126 : decode cX12_isAhead 126 = .ok (.aload_n 0, 1) := by decide +kernel
theorem dX12_isAhead_127 : decode cX12_isAhead 127 = .ok (.getfield 7, 3) := by decide +kernel
theorem dX12_isAhead_130 : decode cX12_isAhead 130 = .ok (.iload_n 2, 1) := by decide +kernel
theorem dX12_isAhead_131 : decode cX12_isAhead 131 = .ok (.iaload, 1) := by decide +kernel
theorem dX12_isAhead_132 : decode cX12_isAhead 132 = .ok (.if_icmp .ge 20, 3) := by decide +kernel
theorem dX12_isAhead_135 : decode cX12_isAhead 135 = .ok (.iload 4, 2) := by decide +kernel
theorem dX12_isAhead_137 : decode cX12_isAhead 137 = .ok (.aload_n 0, 1) := by decide +kernel
theorem dX12_isAhead_138 : decode cX12_isAhead 138 = .ok (.getfield 7, 3) := by decide +kernel
theorem dX12_isAhead_141 : decode cX12_isAhead 141 = .ok (.iload_n 2, 1) := by decide +kernel
theorem dX12_isAhead_142 : decode cX12_isAhead 142 = .ok (.iaload, 1) := by decide +kernel
theorem dX12_isAhead_143 : decode cX12_isAhead 143 = .ok (.if_icmp .ge 7, 3) := by decide +kernel
theorem dX12_isAhead_146 : decode cX12_isAhead 146 = .ok (.iconst 1, 1) := by decide +kernel
theorem dX12_isAhead_147 : decode cX12_isAhead 147 = .ok (.goto 4, 3) := by decide +kernel
theorem dX12_isAhead_150 : decode cX12_isAhead 150 = .ok (.iconst 0, 1) := by decide +kernel
theorem dX12_isAhead_151 : decode cX12_isAhead 151 = .ok (.ireturn, 1) := by decide +kernel
theorem dX12_isAhead_152 : decode cX12_isAhead 152 = .ok (.aload_n 0, 1) := by decide +kernel
theorem dX12_isAhead_153 : decode cX12_isAhead 153 = .ok (.getfield 32, 3) := by decide +kernel
theorem dX12_isAhead_156 : decode cX12_isAhead 156 = .ok (.iconst 1, 1) := by decide +kernel
theorem dX12_isAhead_157 : decode cX12_isAhead 157 = .ok (.iaload, 1) := by decide +kernel
theorem dX12_isAhead_158 : decode cX12_isAhead 158 = .ok (.iconst 1, 1) := by decide +kernel
theorem dX12_isAhead_159 : decode cX12_isAhead 159 = .ok (.if_icmp .ne 39, 3) := by decide +kernel
theorem dX12_isAhead_162 : decode cX12_isAhead 162 = .ok (.aload_n 0, 1) := by decide +kernel
theorem dX12_isAhead_163 : decode cX12_isAhead 163 = .ok (.getfield 19, 3) := by decide +kernel
theorem dX12_isAhead_166 : decode cX12_isAhead 166 = .ok (.iload_n 1, 1) := by decide +kernel
theorem dX12_isAhead_167 : decode cX12_isAhead 167 = .ok (.iaload, 1) := by decide +kernel
theorem dX12_isAhead_168 : decode cX12_isAhead 168 = .ok (.aload_n 0, 1) := by decide +kernel
theorem dX12_isAhead_169 : decode cX12_isAhead 169 = .ok (.getfield 19, 3) := by decide +kernel
theorem dX12_isAhead_172 : decode cX12_isAhead 172 = .ok (.iload_n 2, 1) := by decide +kernel
theorem dX12_isAhead_173 : decode cX12_isAhead 173 = .ok (.iaload, 1) := by decide +kernel
theorem dX12_isAhead_174 : decode cX12_isAhead 174 = .ok (.if_icmp .eq 24, 3) := by decide +kernel
theorem dX12_isAhead_177 : decode cX12_isAhead 177 = .ok (.aload_n 0, 1) := by decide +kernel
theorem dX12_isAhead_178 : decode cX12_isAhead 178 = .ok (.getfield 19, 3) := by decide +kernel
theorem dX12_isAhead_181 : decode cX12_isAhead 181 = .ok (.iload_n 1, 1) := by decide +kernel
theorem dX12_isAhead_182 : decode cX12_isAhead 182 = .ok (.iaload, 1) := by decide +kernel
theorem dX12_isAhead_183 : decode cX12_isAhead 183 = .ok (.aload_n 0, 1) := by decide +kernel
theorem dX12_isAhead_184 : decode cX12_isAhead 184 = .ok (.getfield 19, 3) := by decide +kernel
theorem dX12_isAhead_187 : decode cX12_isAhead 187 = .ok (.iload_n 2, 1) := by decide +kernel
theorem dX12_isAhead_188 : decode cX12_isAhead 188 = .ok (.iaload, 1) := by decide +kernel
theorem dX12_isAhead_189 : decode cX12_isAhead 189 = .ok (.if_icmp .le 7, 3) := by decide +kernel
theorem dX12_isAhead_192 : decode cX12_isAhead 192 = .ok (.iconst 1, 1) := by decide +kernel
theorem dX12_isAhead_193 : decode cX12_isAhead 193 = .ok (.goto 4, 3) := by decide +kernel
theorem dX12_isAhead_196 : decode cX12_isAhead 196 = .ok (.iconst 0, 1) := by decide +kernel
theorem dX12_isAhead_197 : decode cX12_isAhead 197 = .ok (.ireturn, 1) := by decide +kernel
theorem dX12_isAhead_198 : decode cX12_isAhead 198 = .ok (.aload_n 0, 1) := by decide +kernel
theorem dX12_isAhead_199 : decode cX12_isAhead 199 = .ok (.getfield 32, 3) := by decide +kernel
theorem dX12_isAhead_202 : decode cX12_isAhead 202 = .ok (.iconst 1, 1) := by decide +kernel
theorem dX12_isAhead_203 : decode cX12_isAhead 203 = .ok (.iaload, 1) := by decide +kernel
theorem dX12_isAhead_204 : decode cX12_isAhead 204 = .ok (.iconst 2, 1) := by decide +kernel
theorem dX12_isAhead_205 : decode cX12_isAhead 205 = .ok (.if_icmp .ne 39, 3) := by decide +kernel
theorem dX12_isAhead_208 : decode cX12_isAhead 208 = .ok (.aload_n 0, 1) := by decide +kernel
theorem dX12_isAhead_209 : decode cX12_isAhead 209 = .ok (.getfield 22, 3) := by decide +kernel
theorem dX12_isAhead_212 : decode cX12_isAhead 212 = .ok (.iload_n 1, 1) := by decide +kernel
theorem dX12_isAhead_213 : decode cX12_isAhead 213 = .ok (.iaload, 1) := by decide +kernel
theorem dX12_isAhead_214 : decode cX12_isAhead 214 = .ok (.aload_n 0, 1) := by decide +kernel
theorem dX12_isAhead_215 : decode cX12_isAhead 215 = .ok (.getfield 22, 3) := by decide +kernel
theorem dX12_isAhead_218 : decode cX12_isAhead 218 = .ok (.iload_n 2, 1) := by decide +kernel
theorem dX12_isAhead_219 : decode cX12_isAhead 219 = .ok (.iaload, 1) := by decide +kernel
theorem dX12_isAhead_220 : decode cX12_isAhead 220 = .ok (.if_icmp .eq 24, 3) := by decide +kernel
theorem dX12_isAhead_223 : decode cX12_isAhead 223 = .ok (.aload_n 0, 1) := by decide +kernel
theorem dX12_isAhead_224 : decode cX12_isAhead 224 = .ok (.getfield 22, 3) := by decide +kernel
theorem dX12_isAhead_227 : decode cX12_isAhead 227 = .ok (.iload_n 1, 1) := by decide +kernel
theorem dX12_isAhead_228 : decode cX12_isAhead 228 = .ok (.iaload, 1) := by decide +kernel
theorem dX12_isAhead_229 : decode cX12_isAhead 229 = .ok (.aload_n 0, 1) := by decide +kernel
theorem dX12_isAhead_230 : decode cX12_isAhead 230 = .ok (.getfield 22, 3) := by decide +kernel
theorem dX12_isAhead_233 : decode cX12_isAhead 233 = .ok (.iload_n 2, 1) := by decide +kernel
theorem dX12_isAhead_234 : decode cX12_isAhead 234 = .ok (.iaload, 1) := by decide +kernel
theorem dX12_isAhead_235 : decode cX12_isAhead 235 = .ok (.if_icmp .le 7, 3) := by decide +kernel
theorem dX12_isAhead_238 : decode cX12_isAhead 238 = .ok (.iconst 1, 1) := by decide +kernel
theorem dX12_isAhead_239 : decode cX12_isAhead 239 = .ok (.goto 4, 3) := by decide +kernel
theorem dX12_isAhead_242 : decode cX12_isAhead 242 = .ok (.iconst 0, 1) := by decide +kernel
theorem dX12_isAhead_243 : decode cX12_isAhead 243 = .ok (.ireturn, 1) := by decide +kernel
theorem dX12_isAhead_244 : decode cX12_isAhead 244 = .ok (.iload_n 1, 1) := by decide +kernel
theorem dX12_isAhead_245 : decode cX12_isAhead 245 = .ok (.iload_n 2, 1) := by decide +kernel
theorem dX12_isAhead_246 : decode cX12_isAhead 246 = .ok (.if_icmp .ge 7, 3) := by decide +kernel
theorem dX12_isAhead_249 : decode cX12_isAhead 249 = .ok (.iconst 1, 1) := by decide +kernel
theorem dX12_isAhead_250 : decode cX12_isAhead 250 = .ok (.goto 4, 3) := by decide +kernel
theorem dX12_isAhead_253 : decode cX12_isAhead 253 = .ok (.iconst 0, 1) := by decide +kernel
theorem dX12_isAhead_254 : decode cX12_isAhead 254 = .ok (.ireturn, 1) := by decide +kernel
theorem dX12_queues_0 : decode cX12_queues 0 = .ok (.aload_n 0, 1) := by decide +kernel
theorem dX12_queues_1 : decode cX12_queues 1 = .ok (.iload_n 1, 1) := by decide +kernel
theorem dX12_queues_2 : decode cX12_queues 2 = .ok (.invokevirtual 311, 3) := by decide +kernel
theorem dX12_queues_5 : decode cX12_queues 5 = .ok (.iconst 0, 1) := by decide +kernel
theorem dX12_queues_6 : decode cX12_queues 6 = .ok (.istore_n 2, 1) := by decide +kernel
theorem dX12_queues_7 : decode cX12_queues 7 = .ok (.iload_n 2, 1) := by decide +kernel
theorem dX12_queues_8 : decode cX12_queues 8 = .ok (.aload_n 0, 1) := by decide +kernel
theorem dX12_queues_9 : decode cX12_queues 9 = .ok (.getfield 154, 3) := by decide +kernel
theorem dX12_queues_12 : decode cX12_queues 12 = .ok (.if_icmp .ge 59, 3) := by decide +kernel
theorem dX12_queues_15 : decode cX12_queues 15 = .ok (.iload_n 2, 1) := by decide +kernel
theorem dX12_queues_16 : decode cX12_queues 16 = .ok (.istore_n 3, 1) := by decide +kernel
theorem dX12_queues_17 : decode cX12_queues 17 = .ok (.iload_n 3, 1) := by decide +kernel
theorem dX12_queues_18 : decode cX12_queues 18 = .ok (.ifCond .le 40, 3) := by decide +kernel
theorem dX12_queues_21 : decode cX12_queues 21 = .ok (.aload_n 0, 1) := by decide +kernel
theorem dX12_queues_22 : decode cX12_queues 22 = .ok (.iload_n 2, 1) := by decide +kernel
theorem dX12_queues_23 : decode cX12_queues 23 = .ok (.aload_n 0, 1) := by decide +kernel
theorem dX12_queues_24 : decode cX12_queues 24 = .ok (.getfield 95, 3) := by decide +kernel
theorem dX12_queues_27 : decode cX12_queues 27 = .ok (.iload_n 3, 1) := by decide +kernel
theorem dX12_queues_28 : decode cX12_queues 28 = .ok (.iconst 1, 1) := by decide +kernel
theorem dX12_queues_29 : decode cX12_queues 29 = .ok (.isub, 1) := by decide +kernel
theorem dX12_queues_30 : decode cX12_queues 30 = .ok (.iaload, 1) := by decide +kernel
theorem dX12_queues_31 : decode cX12_queues 31 = .ok (.invokevirtual 314, 3) := by decide +kernel
theorem dX12_queues_34 : decode cX12_queues 34 = .ok (.ifCond .eq 24, 3) := by decide +kernel
theorem dX12_queues_37 : decode cX12_queues 37 = .ok (.aload_n 0, 1) := by decide +kernel
theorem dX12_queues_38 : decode cX12_queues 38 = .ok (.getfield 95, 3) := by decide +kernel
theorem dX12_queues_41 : decode cX12_queues 41 = .ok (.iload_n 3, 1) := by decide +kernel
theorem dX12_queues_42 : decode cX12_queues 42 = .ok (.aload_n 0, 1) := by decide +kernel
theorem dX12_queues_43 : decode cX12_queues 43 = .ok (.getfield 95, 3) := by decide +kernel
theorem dX12_queues_46 : decode cX12_queues 46 = .ok (.iload_n 3, 1) := by decide +kernel
theorem dX12_queues_47 : decode cX12_queues 47 = .ok (.iconst 1, 1) := by decide +kernel
theorem dX12_queues_48 : decode cX12_queues 48 = .ok (.isub, 1) := by decide +kernel
theorem dX12_queues_49 : decode cX12_queues 49 = .ok (.iaload, 1) := by decide +kernel
theorem dX12_queues_50 : decode cX12_queues 50 = .ok (.iastore, 1) := by decide +kernel
theorem dX12_queues_51 : decode cX12_queues 51 = .ok (.iload_n 3, 1) := by decide +kernel
theorem dX12_queues_52 : decode cX12_queues 52 = .ok (.iconst 1, 1) := by decide +kernel
theorem dX12_queues_53 : decode cX12_queues 53 = .ok (.isub, 1) := by decide +kernel
theorem dX12_queues_54 : decode cX12_queues 54 = .ok (.istore_n 3, 1) := by decide +kernel
theorem dX12_queues_55 : decode cX12_queues 55 = .ok (.goto (-38), 3) := by decide +kernel
theorem dX12_queues_58 : decode cX12_queues 58 = .ok (.aload_n 0, 1) := by decide +kernel
theorem dX12_queues_59 : decode cX12_queues 59 = .ok (.getfield 95, 3) := by decide +kernel
theorem dX12_queues_62 : decode cX12_queues 62 = .ok (.iload_n 3, 1) := by decide +kernel
theorem dX12_queues_63 : decode cX12_queues 63 = .ok (.iload_n 2, 1) := by decide +kernel
theorem dX12_queues_64 : decode cX12_queues 64 = .ok (.iastore, 1) := by decide +kernel
theorem dX12_queues_65 : decode cX12_queues 65 = .ok (.iinc 2 1, 3) := by decide +kernel
theorem dX12_queues_68 : decode cX12_queues 68 = .ok (.goto (-61), 3) := by decide +kernel
theorem dX12_queues_71 : decode cX12_queues 71 = .ok (.return_, 1) := by decide +kernel
theorem dX12_getsAt_0 : decode cX12_getsAt 0 = .ok (.aload_n 0, 1) := by decide +kernel
theorem dX12_getsAt_1 : decode cX12_getsAt 1 = .ok (.getfield 35, 3) := by decide +kernel
theorem dX12_getsAt_4 : decode cX12_getsAt 4 = .ok (.iload_n 1, 1) := by decide +kernel
theorem dX12_getsAt_5 : decode cX12_getsAt 5 = .ok (.iaload, 1) := by decide +kernel
theorem dX12_getsAt_6 : decode cX12_getsAt 6 = .ok (.ifCond .ne 7, 3) := by decide +kernel
theorem dX12_getsAt_9 : decode cX12_getsAt 9 = .ok (.iload_n 2, 1) := by decide +kernel
theorem dX12_getsAt_10 : decode cX12_getsAt 10 = .ok (.goto 11, 3) := by decide +kernel
theorem dX12_getsAt_13 : decode cX12_getsAt 13 = .ok (.aload_n 0, 1) := by decide +kernel
theorem dX12_getsAt_14 : decode cX12_getsAt 14 = .ok (.getfield 154, 3) := by decide +kernel
theorem dX12_getsAt_17 : decode cX12_getsAt 17 = .ok (.iconst 1, 1) := by decide +kernel
theorem dX12_getsAt_18 : decode cX12_getsAt 18 = .ok (.isub, 1) := by decide +kernel
theorem dX12_getsAt_19 : decode cX12_getsAt 19 = .ok (.iload_n 2, 1) := by decide +kernel
theorem dX12_getsAt_20 : decode cX12_getsAt 20 = .ok (.isub, 1) := by decide +kernel
theorem dX12_getsAt_21 : decode cX12_getsAt 21 = .ok (.istore_n 3, 1) := by decide +kernel
theorem dX12_getsAt_22 : decode cX12_getsAt 22 = .ok (.iload_n 3, 1) := by decide +kernel
theorem dX12_getsAt_23 : decode cX12_getsAt 23 = .ok (.aload_n 0, 1) := by decide +kernel
theorem dX12_getsAt_24 : decode cX12_getsAt 24 = .ok (.getfield 44, 3) := by decide +kernel
theorem dX12_getsAt_27 : decode cX12_getsAt 27 = .ok (.iload_n 1, 1) := by decide +kernel
theorem dX12_getsAt_28 : decode cX12_getsAt 28 = .ok (.iaload, 1) := by decide +kernel
theorem dX12_getsAt_29 : decode cX12_getsAt 29 = .ok (.if_icmp .lt 5, 3) := by decide +kernel
theorem dX12_getsAt_32 : decode cX12_getsAt 32 = .ok (.iconst 0, 1) := by decide +kernel
theorem dX12_getsAt_33 : decode cX12_getsAt 33 = .ok (.ireturn, 1) := by decide +kernel
theorem dX12_getsAt_34 : decode cX12_getsAt 34 = .ok (.aload_n 0, 1) := by decide +kernel
theorem dX12_getsAt_35 : decode cX12_getsAt 35 = .ok (.getfield 38, 3) := by decide +kernel
theorem dX12_getsAt_38 : decode cX12_getsAt 38 = .ok (.iload_n 1, 1) := by decide +kernel
theorem dX12_getsAt_39 : decode cX12_getsAt 39 = .ok (.iaload, 1) := by decide +kernel
theorem dX12_getsAt_40 : decode cX12_getsAt 40 = .ok (.ifCond .le 21, 3) := by decide +kernel
theorem dX12_getsAt_43 : decode cX12_getsAt 43 = .ok (.aload_n 0, 1) := by decide +kernel
theorem dX12_getsAt_44 : decode cX12_getsAt 44 = .ok (.getfield 38, 3) := by decide +kernel
theorem dX12_getsAt_47 : decode cX12_getsAt 47 = .ok (.iload_n 1, 1) := by decide +kernel
theorem dX12_getsAt_48 : decode cX12_getsAt 48 = .ok (.iaload, 1) := by decide +kernel
theorem dX12_getsAt_49 : decode cX12_getsAt 49 = .ok (.iload_n 3, 1) := by decide +kernel
theorem dX12_getsAt_50 : decode cX12_getsAt 50 = .ok (.aload_n 0, 1) := by decide +kernel
theorem dX12_getsAt_51 : decode cX12_getsAt 51 = .ok (.getfield 41, 3) := by decide +kernel
theorem dX12_getsAt_54 : decode cX12_getsAt 54 = .ok (.iload_n 1, 1) := by decide +kernel
theorem dX12_getsAt_55 : decode cX12_getsAt 55 = .ok (.iaload, 1) := by decide +kernel
theorem dX12_getsAt_56 : decode cX12_getsAt 56 = .ok (.imul, 1) := by decide +kernel
theorem dX12_getsAt_57 : decode cX12_getsAt 57 = .ok (.isub, 1) := by decide +kernel
theorem dX12_getsAt_58 : decode cX12_getsAt 58 = .ok (.goto 18, 3) := by decide +kernel
theorem dX12_getsAt_61 : decode cX12_getsAt 61 = .ok (.aload_n 0, 1) := by decide +kernel
theorem dX12_getsAt_62 : decode cX12_getsAt 62 = .ok (.getfield 38, 3) := by decide +kernel
theorem dX12_getsAt_65 : decode cX12_getsAt 65 = .ok (.iload_n 1, 1) := by decide +kernel
theorem dX12_getsAt_66 : decode cX12_getsAt 66 = .ok (.iaload, 1) := by decide +kernel
theorem dX12_getsAt_67 : decode cX12_getsAt 67 = .ok (.iload_n 3, 1) := by decide +kernel
theorem dX12_getsAt_68 : decode cX12_getsAt 68 = .ok (.aload_n 0, 1) := by decide +kernel
theorem dX12_getsAt_69 : decode cX12_getsAt 69 = .ok (.getfield 41, 3) := by decide +kernel
theorem dX12_getsAt_72 : decode cX12_getsAt 72 = .ok (.iload_n 1, 1) := by decide +kernel
theorem dX12_getsAt_73 : decode cX12_getsAt 73 = .ok (.iaload, 1) := by decide +kernel
theorem dX12_getsAt_74 : decode cX12_getsAt 74 = .ok (.imul, 1) := by decide +kernel
theorem dX12_getsAt_75 : decode cX12_getsAt 75 = .ok (.iadd, 1) := by decide +kernel
theorem dX12_getsAt_76 : decode cX12_getsAt 76 = .ok (.istore 4, 2) := by decide +kernel
theorem dX12_getsAt_78 : decode cX12_getsAt 78 = .ok (.aload_n 0, 1) := by decide +kernel
theorem dX12_getsAt_79 : decode cX12_getsAt 79 = .ok (.getfield 38, 3) := by decide +kernel
theorem dX12_getsAt_82 : decode cX12_getsAt 82 = .ok (.iload_n 1, 1) := by decide +kernel
theorem dX12_getsAt_83 : decode cX12_getsAt 83 = .ok (.iaload, 1) := by decide +kernel
theorem dX12_getsAt_84 : decode cX12_getsAt 84 = .ok (.ifCond .le 17, 3) := by decide +kernel
theorem dX12_getsAt_87 : decode cX12_getsAt 87 = .ok (.iload 4, 2) := by decide +kernel
theorem dX12_getsAt_89 : decode cX12_getsAt 89 = .ok (.ifCond .ge 7, 3) := by decide +kernel
theorem dX12_getsAt_92 : decode cX12_getsAt 92 = .ok (.iconst 0, 1) := by decide +kernel
theorem dX12_getsAt_93 : decode cX12_getsAt 93 = .ok (.goto 19, 3) := by decide +kernel
theorem dX12_getsAt_96 : decode cX12_getsAt 96 = .ok (.iload 4, 2) := by decide +kernel
theorem dX12_getsAt_98 : decode cX12_getsAt 98 = .ok (.goto 14, 3) := by decide +kernel
theorem dX12_getsAt_101 : decode cX12_getsAt 101 = .ok (.iload 4, 2) := by decide +kernel
theorem dX12_getsAt_103 : decode cX12_getsAt 103 = .ok (.ifCond .le 7, 3) := by decide +kernel
theorem dX12_getsAt_106 : decode cX12_getsAt 106 = .ok (.iconst 0, 1) := by decide +kernel
theorem dX12_getsAt_107 : decode cX12_getsAt 107 = .ok (.goto 5, 3) := by decide +kernel
theorem dX12_getsAt_110 : decode cX12_getsAt 110 = .ok (.iload 4, 2) := by decide +kernel
theorem dX12_getsAt_112 : decode cX12_getsAt 112 = .ok (.ireturn, 1) := by decide +kernel
theorem dX12_findsWorths_0 : decode cX12_findsWorths 0 = .ok (.aload_n 0, 1) := by decide +kernel
theorem dX12_findsWorths_1 : decode cX12_findsWorths 1 = .ok (.iload_n 1, 1) := by decide +kernel
theorem dX12_findsWorths_2 : decode cX12_findsWorths 2 = .ok (.invokevirtual 318, 3) := by decide +kernel
theorem dX12_findsWorths_5 : decode cX12_findsWorths 5 = .ok (.iconst 0, 1) := by decide +kernel
theorem dX12_findsWorths_6 : decode cX12_findsWorths 6 = .ok (.istore_n 2, 1) := by decide +kernel
theorem dX12_findsWorths_7 : decode cX12_findsWorths 7 = .ok (.iload_n 2, 1) := by decide +kernel
theorem dX12_findsWorths_8 : decode cX12_findsWorths 8 = .ok (.aload_n 0, 1) := by decide +kernel
theorem dX12_findsWorths_9 : decode cX12_findsWorths 9 = .ok (.getfield 154, 3) := by decide +kernel
theorem dX12_findsWorths_12 : decode cX12_findsWorths 12 = .ok (.if_icmp .ge 49, 3) := by decide +kernel
theorem dX12_findsWorths_15 : decode cX12_findsWorths 15 = .ok (.iconst 0, 1) := by decide +kernel
theorem dX12_findsWorths_16 : decode cX12_findsWorths 16 = .ok (.istore_n 3, 1) := by decide +kernel
theorem dX12_findsWorths_17 : decode cX12_findsWorths 17 = .ok (.iconst 0, 1) := by decide +kernel
theorem dX12_findsWorths_18 : decode cX12_findsWorths 18 = .ok (.istore 4, 2) := by decide +kernel
theorem dX12_findsWorths_20 : decode cX12_findsWorths 20 = .ok (.iload 4, 2) := by decide +kernel
theorem dX12_findsWorths_22 : decode cX12_findsWorths 22 = .ok (.bipush 6, 2) := by decide +kernel
theorem dX12_findsWorths_24 : decode cX12_findsWorths 24 = .ok (.if_icmp .ge 19, 3) := by decide +kernel
theorem dX12_findsWorths_27 : decode cX12_findsWorths 27 = .ok (.iload_n 3, 1) := by decide +kernel
theorem dX12_findsWorths_28 : decode cX12_findsWorths 28 = .ok (.aload_n 0, 1) := by decide +kernel
theorem dX12_findsWorths_29 : decode cX12_findsWorths 29 = .ok (.iload 4, 2) := by decide +kernel
theorem dX12_findsWorths_31 : decode cX12_findsWorths 31 = .ok (.iload_n 2, 1) := by decide +kernel
theorem dX12_findsWorths_32 : decode cX12_findsWorths 32 = .ok (.invokevirtual 321, 3) := by decide +kernel
theorem dX12_findsWorths_35 : decode cX12_findsWorths 35 = .ok (.iadd, 1) := by decide +kernel
theorem dX12_findsWorths_36 : decode cX12_findsWorths 36 = .ok (.istore_n 3, 1) := by decide +kernel
theorem dX12_findsWorths_37 : decode cX12_findsWorths 37 = .ok (.iinc 4 1, 3) := by decide +kernel
theorem dX12_findsWorths_40 : decode cX12_findsWorths 40 = .ok (.goto (-20), 3) := by decide +kernel
theorem dX12_findsWorths_43 : decode cX12_findsWorths 43 = .ok (.aload_n 0, 1) := by decide +kernel
theorem dX12_findsWorths_44 : decode cX12_findsWorths 44 = .ok (.getfield 98, 3) := by decide +kernel
theorem dX12_findsWorths_47 : decode cX12_findsWorths 47 = .ok (.aload_n 0, 1) := by decide +kernel
theorem dX12_findsWorths_48 : decode cX12_findsWorths 48 = .ok (.getfield 95, 3) := by decide +kernel
theorem dX12_findsWorths_51 : decode cX12_findsWorths 51 = .ok (.iload_n 2, 1) := by decide +kernel
theorem dX12_findsWorths_52 : decode cX12_findsWorths 52 = .ok (.iaload, 1) := by decide +kernel
theorem dX12_findsWorths_53 : decode cX12_findsWorths 53 = .ok (.iload_n 3, 1) := by decide +kernel
theorem dX12_findsWorths_54 : decode cX12_findsWorths 54 = .ok (.iastore, 1) := by decide +kernel
theorem dX12_findsWorths_55 : decode cX12_findsWorths 55 = .ok (.iinc 2 1, 3) := by decide +kernel
theorem dX12_findsWorths_58 : decode cX12_findsWorths 58 = .ok (.goto (-51), 3) := by decide +kernel
theorem dX12_findsWorths_61 : decode cX12_findsWorths 61 = .ok (.return_, 1) := by decide +kernel
theorem dX12_worthOf_0 : decode cX12_worthOf 0 = .ok (.aload_n 0, 1) := by decide +kernel
theorem dX12_worthOf_1 : decode cX12_worthOf 1 = .ok (.iload_n 2, 1) := by decide +kernel
theorem dX12_worthOf_2 : decode cX12_worthOf 2 = .ok (.invokevirtual 324, 3) := by decide +kernel
theorem dX12_worthOf_5 : decode cX12_worthOf 5 = .ok (.aload_n 0, 1) := by decide +kernel
theorem dX12_worthOf_6 : decode cX12_worthOf 6 = .ok (.getfield 98, 3) := by decide +kernel
theorem dX12_worthOf_9 : decode cX12_worthOf 9 = .ok (.iload_n 1, 1) := by decide +kernel
theorem dX12_worthOf_10 : decode cX12_worthOf 10 = .ok (.iaload, 1) := by decide +kernel
theorem dX12_worthOf_11 : decode cX12_worthOf 11 = .ok (.ireturn, 1) := by decide +kernel
theorem dX12_of_0 : decode cX12_of 0 = .ok (.aload_n 0, 1) := by decide +kernel
theorem dX12_of_1 : decode cX12_of 1 = .ok (.iconst 0, 1) := by decide +kernel
theorem dX12_of_2 : decode cX12_of 2 = .ok (.putfield 146, 3) := by decide +kernel
theorem dX12_of_5 : decode cX12_of 5 = .ok (.aload_n 0, 1) := by decide +kernel
theorem dX12_of_6 : decode cX12_of 6 = .ok (.iload_n 1, 1) := by decide +kernel
theorem dX12_of_7 : decode cX12_of 7 = .ok (.invokevirtual 191, 3) := by decide +kernel
theorem dX12_of_10 : decode cX12_of 10 = .ok (.ifCond .ne 7, 3) := by decide +kernel
theorem dX12_of_13 : decode cX12_of 13 = .ok (.ldc_w 327, 3) := by decide +kernel
theorem dX12_of_16 : decode cX12_of 16 = .ok (.ireturn, 1) := by decide +kernel
theorem dX12_of_17 : decode cX12_of 17 = .ok (.iload_n 2, 1) := by decide +kernel
theorem dX12_of_18 : decode cX12_of 18 = .ok (.ifCond .ne 10, 3) := by decide +kernel
theorem dX12_of_21 : decode cX12_of 21 = .ok (.aload_n 0, 1) := by decide +kernel
theorem dX12_of_22 : decode cX12_of 22 = .ok (.getfield 16, 3) := by decide +kernel
theorem dX12_of_25 : decode cX12_of 25 = .ok (.iload_n 1, 1) := by decide +kernel
theorem dX12_of_26 : decode cX12_of 26 = .ok (.iaload, 1) := by decide +kernel
theorem dX12_of_27 : decode cX12_of 27 = .ok (.ireturn, 1) := by decide +kernel
theorem dX12_of_28 : decode cX12_of 28 = .ok (.iload_n 2, 1) := by decide +kernel
theorem dX12_of_29 : decode cX12_of 29 = .ok (.iconst 1, 1) := by decide +kernel
theorem dX12_of_30 : decode cX12_of 30 = .ok (.if_icmp .ne 10, 3) := by decide +kernel
theorem dX12_of_33 : decode cX12_of 33 = .ok (.aload_n 0, 1) := by decide +kernel
theorem dX12_of_34 : decode cX12_of 34 = .ok (.getfield 19, 3) := by decide +kernel
theorem dX12_of_37 : decode cX12_of 37 = .ok (.iload_n 1, 1) := by decide +kernel
theorem dX12_of_38 : decode cX12_of 38 = .ok (.iaload, 1) := by decide +kernel
theorem dX12_of_39 : decode cX12_of 39 = .ok (.ireturn, 1) := by decide +kernel
theorem dX12_of_40 : decode cX12_of 40 = .ok (.iload_n 2, 1) := by decide +kernel
theorem dX12_of_41 : decode cX12_of 41 = .ok (.iconst 2, 1) := by decide +kernel
theorem dX12_of_42 : decode cX12_of 42 = .ok (.if_icmp .ne 10, 3) := by decide +kernel
theorem dX12_of_45 : decode cX12_of 45 = .ok (.aload_n 0, 1) := by decide +kernel
theorem dX12_of_46 : decode cX12_of 46 = .ok (.getfield 22, 3) := by decide +kernel
theorem dX12_of_49 : decode cX12_of 49 = .ok (.iload_n 1, 1) := by decide +kernel
theorem dX12_of_50 : decode cX12_of 50 = .ok (.iaload, 1) := by decide +kernel
theorem dX12_of_51 : decode cX12_of 51 = .ok (.ireturn, 1) := by decide +kernel
theorem dX12_of_52 : decode cX12_of 52 = .ok (.iload_n 2, 1) := by decide +kernel
theorem dX12_of_53 : decode cX12_of 53 = .ok (.iconst 3, 1) := by decide +kernel
theorem dX12_of_54 : decode cX12_of 54 = .ok (.if_icmp .ne 10, 3) := by decide +kernel
theorem dX12_of_57 : decode cX12_of 57 = .ok (.aload_n 0, 1) := by decide +kernel
theorem dX12_of_58 : decode cX12_of 58 = .ok (.getfield 7, 3) := by decide +kernel
theorem dX12_of_61 : decode cX12_of 61 = .ok (.iload_n 1, 1) := by decide +kernel
theorem dX12_of_62 : decode cX12_of 62 = .ok (.iaload, 1) := by decide +kernel
theorem dX12_of_63 : decode cX12_of 63 = .ok (.ireturn, 1) := by decide +kernel
theorem dX12_of_64 : decode cX12_of 64 = .ok (.iload_n 2, 1) := by decide +kernel
theorem dX12_of_65 : decode cX12_of 65 = .ok (.iconst 4, 1) := by decide +kernel
theorem dX12_of_66 : decode cX12_of 66 = .ok (.if_icmp .eq 43, 3) := by decide +kernel
theorem dX12_of_69 : decode cX12_of 69 = .ok (.aload_n 0, 1) := by decide +kernel
theorem dX12_of_70 : decode cX12_of 70 = .ok (.iload_n 2, 1) := by decide +kernel
theorem dX12_of_71 : decode cX12_of 71 = .ok (.bipush 10, 2) := by decide +kernel
theorem dX12_of_73 : decode cX12_of 73 = .ok (.bipush 9, 2) := by decide +kernel
theorem dX12_of_75 : decode cX12_of 75 = .ok (.aload_n 0, 1) := by decide +kernel
theorem dX12_of_76 : decode cX12_of 76 = .ok (.getfield 7, 3) := by decide +kernel
theorem dX12_of_79 : decode cX12_of 79 = .ok (.iload_n 1, 1) := by decide +kernel
theorem dX12_of_80 : decode cX12_of 80 = .ok (.iaload, 1) := by decide +kernel
theorem dX12_of_81 : decode cX12_of 81 = .ok (.iadd, 1) := by decide +kernel
theorem dX12_of_82 : decode cX12_of 82 = .ok (.invokevirtual 160, 3) := by decide +kernel
theorem dX12_of_85 : decode cX12_of 85 = .ok (.ifCond .eq 20, 3) := by decide +kernel
theorem dX12_of_88 : decode cX12_of 88 = .ok (.aload_n 0, 1) := by decide +kernel
theorem dX12_of_89 : decode cX12_of 89 = .ok (.getfield 13, 3) := by decide +kernel
theorem dX12_of_92 : decode cX12_of 92 = .ok (.bipush 6, 2) := by decide +kernel
theorem dX12_of_94 : decode cX12_of 94 = .ok (.iload_n 1, 1) := by decide +kernel
theorem dX12_of_95 : decode cX12_of 95 = .ok (.imul, 1) := by decide +kernel
theorem dX12_of_96 : decode cX12_of 96 = .ok (.iload_n 2, 1) := by decide +kernel
theorem dX12_of_97 : decode cX12_of 97 = .ok (.iadd, 1) := by decide +kernel
theorem dX12_of_98 : decode cX12_of 98 = .ok (.bipush 10, 2) := by decide +kernel
theorem dX12_of_100 : decode cX12_of 100 = .ok (.isub, 1) := by decide +kernel
theorem dX12_of_101 : decode cX12_of 101 = .ok (.iaload, 1) := by decide +kernel
theorem dX12_of_102 : decode cX12_of 102 = .ok (.goto 6, 3) := by decide +kernel
theorem dX12_of_105 : decode cX12_of 105 = .ok (.ldc_w 327, 3) := by decide +kernel
theorem dX12_of_108 : decode cX12_of 108 = .ok (.ireturn, 1) := by decide +kernel
theorem dX12_of_109 : decode cX12_of 109 = .ok (.aload_n 0, 1) := by decide +kernel
theorem dX12_of_110 : decode cX12_of 110 = .ok (.iconst 0, 1) := by decide +kernel
theorem dX12_of_111 : decode cX12_of 111 = .ok (.invokevirtual 318, 3) := by decide +kernel
theorem dX12_of_114 : decode cX12_of 114 = .ok (.iconst 0, 1) := by decide +kernel
theorem dX12_of_115 : decode cX12_of 115 = .ok (.istore_n 3, 1) := by decide +kernel
theorem dX12_of_116 : decode cX12_of 116 = .ok (.aload_n 0, 1) := by decide +kernel
theorem dX12_of_117 : decode cX12_of 117 = .ok (.getfield 95, 3) := by decide +kernel
theorem dX12_of_120 : decode cX12_of 120 = .ok (.iload_n 3, 1) := by decide +kernel
theorem dX12_of_121 : decode cX12_of 121 = .ok (.iaload, 1) := by decide +kernel
theorem dX12_of_122 : decode cX12_of 122 = .ok (.iload_n 1, 1) := by decide +kernel
theorem dX12_of_123 : decode cX12_of 123 = .ok (.if_icmp .eq 10, 3) := by decide +kernel
theorem dX12_of_126 : decode cX12_of 126 = .ok (.iload_n 3, 1) := by decide +kernel
theorem dX12_of_127 : decode cX12_of 127 = .ok (.iconst 1, 1) := by decide +kernel
theorem dX12_of_128 : decode cX12_of 128 = .ok (.iadd, 1) := by decide +kernel
theorem dX12_of_129 : decode cX12_of 129 = .ok (.istore_n 3, 1) := by decide +kernel
theorem dX12_of_130 : decode cX12_of 130 = .ok (.goto (-14), 3) := by decide +kernel
theorem dX12_of_133 : decode cX12_of 133 = .ok (.iload_n 3, 1) := by decide +kernel
theorem dX12_of_134 : decode cX12_of 134 = .ok (.ireturn, 1) := by decide +kernel
theorem dX12_worth_0 : decode cX12_worth 0 = .ok (.aload_n 0, 1) := by decide +kernel
theorem dX12_worth_1 : decode cX12_worth 1 = .ok (.iconst 0, 1) := by decide +kernel
theorem dX12_worth_2 : decode cX12_worth 2 = .ok (.putfield 146, 3) := by decide +kernel
theorem dX12_worth_5 : decode cX12_worth 5 = .ok (.aload_n 0, 1) := by decide +kernel
theorem dX12_worth_6 : decode cX12_worth 6 = .ok (.iload_n 1, 1) := by decide +kernel
theorem dX12_worth_7 : decode cX12_worth 7 = .ok (.invokevirtual 191, 3) := by decide +kernel
theorem dX12_worth_10 : decode cX12_worth 10 = .ok (.ifCond .eq 26, 3) := by decide +kernel
theorem dX12_worth_13 : decode cX12_worth 13 = .ok (.aload_n 0, 1) := by decide +kernel
theorem dX12_worth_14 : decode cX12_worth 14 = .ok (.iload_n 2, 1) := by decide +kernel
theorem dX12_worth_15 : decode cX12_worth 15 = .ok (.iconst (-1), 1) := by decide +kernel
theorem dX12_worth_16 : decode cX12_worth 16 = .ok (.iconst 5, 1) := by decide +kernel
theorem dX12_worth_17 : decode cX12_worth 17 = .ok (.invokevirtual 160, 3) := by decide +kernel
theorem dX12_worth_20 : decode cX12_worth 20 = .ok (.ifCond .eq 16, 3) := by decide +kernel
theorem dX12_worth_23 : decode cX12_worth 23 = .ok (.iload_n 2, 1) := by decide +kernel
theorem dX12_worth_24 : decode cX12_worth 24 = .ok (.ifCond .lt 16, 3) := by decide +kernel
theorem dX12_worth_27 : decode cX12_worth 27 = .ok (.aload_n 0, 1) := by decide +kernel
theorem dX12_worth_28 : decode cX12_worth 28 = .ok (.getfield 50, 3) := by decide +kernel
theorem dX12_worth_31 : decode cX12_worth 31 = .ok (.iload_n 2, 1) := by decide +kernel
theorem dX12_worth_32 : decode cX12_worth 32 = .ok (.iaload, 1) := by decide +kernel
theorem dX12_worth_33 : decode cX12_worth 33 = .ok (.ifCond .ne 7, 3) := by decide +kernel
theorem dX12_worth_36 : decode cX12_worth 36 = .ok (.ldc_w 327, 3) := by decide +kernel
theorem dX12_worth_39 : decode cX12_worth 39 = .ok (.ireturn, 1) := by decide +kernel
theorem dX12_worth_40 : decode cX12_worth 40 = .ok (.aload_n 0, 1) := by decide +kernel
theorem dX12_worth_41 : decode cX12_worth 41 = .ok (.iload_n 1, 1) := by decide +kernel
theorem dX12_worth_42 : decode cX12_worth 42 = .ok (.iload_n 2, 1) := by decide +kernel
theorem dX12_worth_43 : decode cX12_worth 43 = .ok (.iconst (-1), 1) := by decide +kernel
theorem dX12_worth_44 : decode cX12_worth 44 = .ok (.if_icmp .ne 7, 3) := by decide +kernel
theorem dX12_worth_47 : decode cX12_worth 47 = .ok (.iconst 0, 1) := by decide +kernel
theorem dX12_worth_48 : decode cX12_worth 48 = .ok (.goto 6, 3) := by decide +kernel
theorem dX12_worth_51 : decode cX12_worth 51 = .ok (.iconst 1, 1) := by decide +kernel
theorem dX12_worth_52 : decode cX12_worth 52 = .ok (.iload_n 2, 1) := by decide +kernel
theorem dX12_worth_53 : decode cX12_worth 53 = .ok (.iadd, 1) := by decide +kernel
theorem dX12_worth_54 : decode cX12_worth 54 = .ok (.invokevirtual 328, 3) := by decide +kernel
theorem dX12_worth_57 : decode cX12_worth 57 = .ok (.ireturn, 1) := by decide +kernel
theorem dX12_expected_0 : decode cX12_expected 0 = .ok (.aload_n 0, 1) := by decide +kernel
theorem dX12_expected_1 : decode cX12_expected 1 = .ok (.iconst 0, 1) := by decide +kernel
theorem dX12_expected_2 : decode cX12_expected 2 = .ok (.putfield 146, 3) := by decide +kernel
theorem dX12_expected_5 : decode cX12_expected 5 = .ok (.aload_n 0, 1) := by decide +kernel
theorem dX12_expected_6 : decode cX12_expected 6 = .ok (.iload_n 1, 1) := by decide +kernel
theorem dX12_expected_7 : decode cX12_expected 7 = .ok (.invokevirtual 191, 3) := by decide +kernel
theorem dX12_expected_10 : decode cX12_expected 10 = .ok (.ifCond .eq 13, 3) := by decide +kernel
theorem dX12_expected_13 : decode cX12_expected 13 = .ok (.aload_n 0, 1) := by decide +kernel
theorem dX12_expected_14 : decode cX12_expected 14 = .ok (.iload_n 2, 1) := by decide +kernel
theorem dX12_expected_15 : decode cX12_expected 15 = .ok (.iconst 0, 1) := by decide +kernel
theorem dX12_expected_16 : decode cX12_expected 16 = .ok (.iconst 1, 1) := by decide +kernel
theorem dX12_expected_17 : decode cX12_expected 17 = .ok (.invokevirtual 160, 3) := by decide +kernel
theorem dX12_expected_20 : decode cX12_expected 20 = .ok (.ifCond .ne 7, 3) := by decide +kernel
theorem dX12_expected_23 : decode cX12_expected 23 = .ok (.ldc_w 327, 3) := by decide +kernel
theorem dX12_expected_26 : decode cX12_expected 26 = .ok (.ireturn, 1) := by decide +kernel
theorem dX12_expected_27 : decode cX12_expected 27 = .ok (.iconst 0, 1) := by decide +kernel
theorem dX12_expected_28 : decode cX12_expected 28 = .ok (.istore_n 3, 1) := by decide +kernel
theorem dX12_expected_29 : decode cX12_expected 29 = .ok (.iconst 0, 1) := by decide +kernel
theorem dX12_expected_30 : decode cX12_expected 30 = .ok (.istore 4, 2) := by decide +kernel
theorem dX12_expected_32 : decode cX12_expected 32 = .ok (.iconst 0, 1) := by decide +kernel
theorem dX12_expected_33 : decode cX12_expected 33 = .ok (.istore 5, 2) := by decide +kernel
theorem dX12_expected_35 : decode cX12_expected 35 = .ok (.iload 5, 2) := by decide +kernel
theorem dX12_expected_37 : decode cX12_expected 37 = .ok (.bipush 6, 2) := by decide +kernel
theorem dX12_expected_39 : decode cX12_expected 39 = .ok (.if_icmp .ge 54, 3) := by decide +kernel
theorem dX12_expected_42 : decode cX12_expected 42 = .ok (.aload_n 0, 1) := by decide +kernel
theorem dX12_expected_43 : decode cX12_expected 43 = .ok (.getfield 50, 3) := by decide +kernel
theorem dX12_expected_46 : decode cX12_expected 46 = .ok (.iload 5, 2) := by decide +kernel
theorem dX12_expected_48 : decode cX12_expected 48 = .ok (.iaload, 1) := by decide +kernel
theorem dX12_expected_49 : decode cX12_expected 49 = .ok (.ifCond .ne 6, 3) := by decide +kernel
theorem dX12_expected_52 : decode cX12_expected 52 = .ok (.goto 35, 3) := by decide +kernel
theorem dX12_expected_55 : decode cX12_expected 55 = .ok (.iload_n 3, 1) := by decide +kernel
theorem dX12_expected_56 : decode cX12_expected 56 = .ok (.aload_n 0, 1) := by decide +kernel
theorem dX12_expected_57 : decode cX12_expected 57 = .ok (.getfield 47, 3) := by decide +kernel
theorem dX12_expected_60 : decode cX12_expected 60 = .ok (.iload 5, 2) := by decide +kernel
theorem dX12_expected_62 : decode cX12_expected 62 = .ok (.iaload, 1) := by decide +kernel
theorem dX12_expected_63 : decode cX12_expected 63 = .ok (.aload_n 0, 1) := by decide +kernel
theorem dX12_expected_64 : decode cX12_expected 64 = .ok (.iload_n 1, 1) := by decide +kernel
theorem dX12_expected_65 : decode cX12_expected 65 = .ok (.iconst 1, 1) := by decide +kernel
theorem dX12_expected_66 : decode cX12_expected 66 = .ok (.iload 5, 2) := by decide +kernel
theorem dX12_expected_68 : decode cX12_expected 68 = .ok (.iadd, 1) := by decide +kernel
theorem dX12_expected_69 : decode cX12_expected 69 = .ok (.invokevirtual 328, 3) := by decide +kernel
theorem dX12_expected_72 : decode cX12_expected 72 = .ok (.imul, 1) := by decide +kernel
theorem dX12_expected_73 : decode cX12_expected 73 = .ok (.iadd, 1) := by decide +kernel
theorem dX12_expected_74 : decode cX12_expected 74 = .ok (.istore_n 3, 1) := by decide +kernel
theorem dX12_expected_75 : decode cX12_expected 75 = .ok (.iload 4, 2) := by decide +kernel
theorem dX12_expected_77 : decode cX12_expected 77 = .ok (.aload_n 0, 1) := by decide +kernel
theorem dX12_expected_78 : decode cX12_expected 78 = .ok (.getfield 47, 3) := by decide +kernel
theorem dX12_expected_81 : decode cX12_expected 81 = .ok (.iload 5, 2) := by decide +kernel
theorem dX12_expected_83 : decode cX12_expected 83 = .ok (.iaload, 1) := by decide +kernel
theorem dX12_expected_84 : decode cX12_expected 84 = .ok (.iadd, 1) := by decide +kernel
theorem dX12_expected_85 : decode cX12_expected 85 = .ok (.istore 4, 2) := by decide +kernel
theorem dX12_expected_87 : decode cX12_expected 87 = .ok (.iinc 5 1, 3) := by decide +kernel
theorem dX12_expected_90 : decode cX12_expected 90 = .ok (.goto (-55), 3) := by decide +kernel
theorem dX12_expected_93 : decode cX12_expected 93 = .ok (.iload 4, 2) := by decide +kernel
theorem dX12_expected_95 : decode cX12_expected 95 = .ok (.ifCond .ne 5, 3) := by decide +kernel
theorem dX12_expected_98 : decode cX12_expected 98 = .ok (.iconst 0, 1) := by decide +kernel
theorem dX12_expected_99 : decode cX12_expected 99 = .ok (.ireturn, 1) := by decide +kernel
theorem dX12_expected_100 : decode cX12_expected 100 = .ok (.iload_n 3, 1) := by decide +kernel
theorem dX12_expected_101 : decode cX12_expected 101 = .ok (.ifCond .ge 8, 3) := by decide +kernel
theorem dX12_expected_104 : decode cX12_expected 104 = .ok (.iload_n 3, 1) := by decide +kernel
theorem dX12_expected_105 : decode cX12_expected 105 = .ok (.ineg, 1) := by decide +kernel
theorem dX12_expected_106 : decode cX12_expected 106 = .ok (.goto 4, 3) := by decide +kernel
theorem dX12_expected_109 : decode cX12_expected 109 = .ok (.iload_n 3, 1) := by decide +kernel
theorem dX12_expected_110 : decode cX12_expected 110 = .ok (.istore 5, 2) := by decide +kernel
theorem dX12_expected_112 : decode cX12_expected 112 = .ok (.iload 4, 2) := by decide +kernel
theorem dX12_expected_114 : decode cX12_expected 114 = .ok (.istore 6, 2) := by decide +kernel
theorem dX12_expected_116 : decode cX12_expected 116 = .ok (.iload 6, 2) := by decide +kernel
theorem dX12_expected_118 : decode cX12_expected 118 = .ok (.ifCond .eq 21, 3) := by decide +kernel
theorem dX12_expected_121 : decode cX12_expected 121 = .ok (.iload 5, 2) := by decide +kernel
theorem dX12_expected_123 : decode cX12_expected 123 = .ok (.iload 6, 2) := by decide +kernel
theorem dX12_expected_125 : decode cX12_expected 125 = .ok (.irem, 1) := by decide +kernel
theorem dX12_expected_126 : decode cX12_expected 126 = .ok (.istore 7, 2) := by decide +kernel
theorem dX12_expected_128 : decode cX12_expected 128 = .ok (.iload 6, 2) := by decide +kernel
theorem dX12_expected_130 : decode cX12_expected 130 = .ok (.istore 5, 2) := by decide +kernel
theorem dX12_expected_132 : decode cX12_expected 132 = .ok (.iload 7, 2) := by decide +kernel
theorem dX12_expected_134 : decode cX12_expected 134 = .ok (.istore 6, 2) := by decide +kernel
theorem dX12_expected_136 : decode cX12_expected 136 = .ok (.goto (-20), 3) := by decide +kernel
theorem dX12_expected_139 : decode cX12_expected 139 = .ok (.iload_n 2, 1) := by decide +kernel
theorem dX12_expected_140 : decode cX12_expected 140 = .ok (.ifCond .ne 10, 3) := by decide +kernel
theorem dX12_expected_143 : decode cX12_expected 143 = .ok (.iload_n 3, 1) := by decide +kernel
theorem dX12_expected_144 : decode cX12_expected 144 = .ok (.iload 5, 2) := by decide +kernel
theorem dX12_expected_146 : decode cX12_expected 146 = .ok (.idiv, 1) := by decide +kernel
theorem dX12_expected_147 : decode cX12_expected 147 = .ok (.goto 8, 3) := by decide +kernel
theorem dX12_expected_150 : decode cX12_expected 150 = .ok (.iload 4, 2) := by decide +kernel
theorem dX12_expected_152 : decode cX12_expected 152 = .ok (.iload 5, 2) := by decide +kernel
theorem dX12_expected_154 : decode cX12_expected 154 = .ok (.idiv, 1) := by decide +kernel
theorem dX12_expected_155 : decode cX12_expected 155 = .ok (.ireturn, 1) := by decide +kernel
theorem dX12_may_0 : decode cX12_may 0 = .ok (.aload_n 0, 1) := by decide +kernel
theorem dX12_may_1 : decode cX12_may 1 = .ok (.iconst 0, 1) := by decide +kernel
theorem dX12_may_2 : decode cX12_may 2 = .ok (.invokevirtual 311, 3) := by decide +kernel
theorem dX12_may_5 : decode cX12_may 5 = .ok (.aload_n 0, 1) := by decide +kernel
theorem dX12_may_6 : decode cX12_may 6 = .ok (.getfield 7, 3) := by decide +kernel
theorem dX12_may_9 : decode cX12_may 9 = .ok (.iload_n 2, 1) := by decide +kernel
theorem dX12_may_10 : decode cX12_may 10 = .ok (.iaload, 1) := by decide +kernel
theorem dX12_may_11 : decode cX12_may 11 = .ok (.istore 4, 2) := by decide +kernel
theorem dX12_may_13 : decode cX12_may 13 = .ok (.bipush 6, 2) := by decide +kernel
theorem dX12_may_15 : decode cX12_may 15 = .ok (.iload_n 2, 1) := by decide +kernel
theorem dX12_may_16 : decode cX12_may 16 = .ok (.imul, 1) := by decide +kernel
theorem dX12_may_17 : decode cX12_may 17 = .ok (.istore 5, 2) := by decide +kernel
theorem dX12_may_19 : decode cX12_may 19 = .ok (.aload_n 0, 1) := by decide +kernel
theorem dX12_may_20 : decode cX12_may 20 = .ok (.getfield 86, 3) := by decide +kernel
theorem dX12_may_23 : decode cX12_may 23 = .ok (.iconst 0, 1) := by decide +kernel
theorem dX12_may_24 : decode cX12_may 24 = .ok (.iload 4, 2) := by decide +kernel
theorem dX12_may_26 : decode cX12_may 26 = .ok (.iastore, 1) := by decide +kernel
theorem dX12_may_27 : decode cX12_may 27 = .ok (.aload_n 0, 1) := by decide +kernel
theorem dX12_may_28 : decode cX12_may 28 = .ok (.getfield 86, 3) := by decide +kernel
theorem dX12_may_31 : decode cX12_may 31 = .ok (.iconst 1, 1) := by decide +kernel
theorem dX12_may_32 : decode cX12_may 32 = .ok (.iload 4, 2) := by decide +kernel
theorem dX12_may_34 : decode cX12_may 34 = .ok (.ifCond .ne 12, 3) := by decide +kernel
theorem dX12_may_37 : decode cX12_may 37 = .ok (.aload_n 0, 1) := by decide +kernel
theorem dX12_may_38 : decode cX12_may 38 = .ok (.getfield 25, 3) := by decide +kernel
theorem dX12_may_41 : decode cX12_may 41 = .ok (.iconst 1, 1) := by decide +kernel
theorem dX12_may_42 : decode cX12_may 42 = .ok (.iadd, 1) := by decide +kernel
theorem dX12_may_43 : decode cX12_may 43 = .ok (.goto 36, 3) := by decide +kernel
theorem dX12_may_46 : decode cX12_may 46 = .ok (.aload_n 0, 1) := by decide +kernel
theorem dX12_may_47 : decode cX12_may 47 = .ok (.getfield 13, 3) := by decide +kernel
theorem dX12_may_50 : decode cX12_may 50 = .ok (.iload 5, 2) := by decide +kernel
theorem dX12_may_52 : decode cX12_may 52 = .ok (.iaload, 1) := by decide +kernel
theorem dX12_may_53 : decode cX12_may 53 = .ok (.aload_n 0, 1) := by decide +kernel
theorem dX12_may_54 : decode cX12_may 54 = .ok (.getfield 25, 3) := by decide +kernel
theorem dX12_may_57 : decode cX12_may 57 = .ok (.if_icmp .ge 18, 3) := by decide +kernel
theorem dX12_may_60 : decode cX12_may 60 = .ok (.aload_n 0, 1) := by decide +kernel
theorem dX12_may_61 : decode cX12_may 61 = .ok (.getfield 92, 3) := by decide +kernel
theorem dX12_may_64 : decode cX12_may 64 = .ok (.aload_n 0, 1) := by decide +kernel
theorem dX12_may_65 : decode cX12_may 65 = .ok (.getfield 13, 3) := by decide +kernel
theorem dX12_may_68 : decode cX12_may 68 = .ok (.iload 5, 2) := by decide +kernel
theorem dX12_may_70 : decode cX12_may 70 = .ok (.iaload, 1) := by decide +kernel
theorem dX12_may_71 : decode cX12_may 71 = .ok (.iaload, 1) := by decide +kernel
theorem dX12_may_72 : decode cX12_may 72 = .ok (.goto 7, 3) := by decide +kernel
theorem dX12_may_75 : decode cX12_may 75 = .ok (.aload_n 0, 1) := by decide +kernel
theorem dX12_may_76 : decode cX12_may 76 = .ok (.getfield 25, 3) := by decide +kernel
theorem dX12_may_79 : decode cX12_may 79 = .ok (.iastore, 1) := by decide +kernel
theorem dX12_may_80 : decode cX12_may 80 = .ok (.aload_n 0, 1) := by decide +kernel
theorem dX12_may_81 : decode cX12_may 81 = .ok (.getfield 86, 3) := by decide +kernel
theorem dX12_may_84 : decode cX12_may 84 = .ok (.iconst 2, 1) := by decide +kernel
theorem dX12_may_85 : decode cX12_may 85 = .ok (.iload 4, 2) := by decide +kernel
theorem dX12_may_87 : decode cX12_may 87 = .ok (.ifCond .ne 12, 3) := by decide +kernel
theorem dX12_may_90 : decode cX12_may 90 = .ok (.aload_n 0, 1) := by decide +kernel
theorem dX12_may_91 : decode cX12_may 91 = .ok (.getfield 25, 3) := by decide +kernel
theorem dX12_may_94 : decode cX12_may 94 = .ok (.iconst 1, 1) := by decide +kernel
theorem dX12_may_95 : decode cX12_may 95 = .ok (.iadd, 1) := by decide +kernel
theorem dX12_may_96 : decode cX12_may 96 = .ok (.goto 46, 3) := by decide +kernel
theorem dX12_may_99 : decode cX12_may 99 = .ok (.aload_n 0, 1) := by decide +kernel
theorem dX12_may_100 : decode cX12_may 100 = .ok (.getfield 13, 3) := by decide +kernel
theorem dX12_may_103 : decode cX12_may 103 = .ok (.iload 5, 2) := by decide +kernel
theorem dX12_may_105 : decode cX12_may 105 = .ok (.iload 4, 2) := by decide +kernel
theorem dX12_may_107 : decode cX12_may 107 = .ok (.iadd, 1) := by decide +kernel
theorem dX12_may_108 : decode cX12_may 108 = .ok (.iconst 1, 1) := by decide +kernel
theorem dX12_may_109 : decode cX12_may 109 = .ok (.isub, 1) := by decide +kernel
theorem dX12_may_110 : decode cX12_may 110 = .ok (.iaload, 1) := by decide +kernel
theorem dX12_may_111 : decode cX12_may 111 = .ok (.aload_n 0, 1) := by decide +kernel
theorem dX12_may_112 : decode cX12_may 112 = .ok (.getfield 25, 3) := by decide +kernel
theorem dX12_may_115 : decode cX12_may 115 = .ok (.if_icmp .ge 23, 3) := by decide +kernel
theorem dX12_may_118 : decode cX12_may 118 = .ok (.aload_n 0, 1) := by decide +kernel
theorem dX12_may_119 : decode cX12_may 119 = .ok (.getfield 92, 3) := by decide +kernel
theorem dX12_may_122 : decode cX12_may 122 = .ok (.aload_n 0, 1) := by decide +kernel
theorem dX12_may_123 : decode cX12_may 123 = .ok (.getfield 13, 3) := by decide +kernel
theorem dX12_may_126 : decode cX12_may 126 = .ok (.iload 5, 2) := by decide +kernel
theorem dX12_may_128 : decode cX12_may 128 = .ok (.iload 4, 2) := by decide +kernel
theorem dX12_may_130 : decode cX12_may 130 = .ok (.iadd, 1) := by decide +kernel
theorem dX12_may_131 : decode cX12_may 131 = .ok (.iconst 1, 1) := by decide +kernel
theorem dX12_may_132 : decode cX12_may 132 = .ok (.isub, 1) := by decide +kernel
theorem dX12_may_133 : decode cX12_may 133 = .ok (.iaload, 1) := by decide +kernel
theorem dX12_may_134 : decode cX12_may 134 = .ok (.iaload, 1) := by decide +kernel
theorem dX12_may_135 : decode cX12_may 135 = .ok (.goto 7, 3) := by decide +kernel
theorem dX12_may_138 : decode cX12_may 138 = .ok (.aload_n 0, 1) := by decide +kernel
theorem dX12_may_139 : decode cX12_may 139 = .ok (.getfield 25, 3) := by decide +kernel
theorem dX12_may_142 : decode cX12_may 142 = .ok (.iastore, 1) := by decide +kernel
theorem dX12_may_143 : decode cX12_may 143 = .ok (.iconst 0, 1) := by decide +kernel
theorem dX12_may_144 : decode cX12_may 144 = .ok (.istore 6, 2) := by decide +kernel
theorem dX12_may_146 : decode cX12_may 146 = .ok (.iload 6, 2) := by decide +kernel
theorem dX12_may_148 : decode cX12_may 148 = .ok (.iload 4, 2) := by decide +kernel
theorem dX12_may_150 : decode cX12_may 150 = .ok (.if_icmp .ge 48, 3) := by decide +kernel
theorem dX12_may_153 : decode cX12_may 153 = .ok (.iload 6, 2) := by decide +kernel
theorem dX12_may_155 : decode cX12_may 155 = .ok (.aload_n 0, 1) := by decide +kernel
theorem dX12_may_156 : decode cX12_may 156 = .ok (.getfield 7, 3) := by decide +kernel
theorem dX12_may_159 : decode cX12_may 159 = .ok (.iload_n 1, 1) := by decide +kernel
theorem dX12_may_160 : decode cX12_may 160 = .ok (.iaload, 1) := by decide +kernel
theorem dX12_may_161 : decode cX12_may 161 = .ok (.if_icmp .ge 37, 3) := by decide +kernel
theorem dX12_may_164 : decode cX12_may 164 = .ok (.aload_n 0, 1) := by decide +kernel
theorem dX12_may_165 : decode cX12_may 165 = .ok (.getfield 13, 3) := by decide +kernel
theorem dX12_may_168 : decode cX12_may 168 = .ok (.iload 5, 2) := by decide +kernel
theorem dX12_may_170 : decode cX12_may 170 = .ok (.iload 6, 2) := by decide +kernel
theorem dX12_may_172 : decode cX12_may 172 = .ok (.iadd, 1) := by decide +kernel
theorem dX12_may_173 : decode cX12_may 173 = .ok (.iaload, 1) := by decide +kernel
theorem dX12_may_174 : decode cX12_may 174 = .ok (.aload_n 0, 1) := by decide +kernel
theorem dX12_may_175 : decode cX12_may 175 = .ok (.getfield 13, 3) := by decide +kernel
theorem dX12_may_178 : decode cX12_may 178 = .ok (.bipush 6, 2) := by decide +kernel
theorem dX12_may_180 : decode cX12_may 180 = .ok (.iload_n 1, 1) := by decide +kernel
theorem dX12_may_181 : decode cX12_may 181 = .ok (.imul, 1) := by decide +kernel
theorem dX12_may_182 : decode cX12_may 182 = .ok (.iload 6, 2) := by decide +kernel
theorem dX12_may_184 : decode cX12_may 184 = .ok (.iadd, 1) := by decide +kernel
theorem dX12_may_185 : decode cX12_may 185 = .ok (.iaload, 1) := by decide +kernel
theorem dX12_may_186 : decode cX12_may 186 = .ok (.if_icmp .ne 12, 3) := by decide +kernel
theorem dX12_may_189 : decode cX12_may 189 = .ok (.iload 6, 2) := by decide +kernel
theorem dX12_may_191 : decode cX12_may 191 = .ok (.iconst 1, 1) := by decide +kernel
theorem dX12_may_192 : decode cX12_may 192 = .ok (.iadd, 1) := by decide +kernel
theorem dX12_may_193 : decode cX12_may 193 = .ok (.istore 6, 2) := by decide +kernel
theorem dX12_may_195 : decode cX12_may 195 = .ok (.goto (-49), 3) := by decide +kernel
theorem dX12_may_198 : decode cX12_may 198 = .ok (.aload_n 0, 1) := by decide +kernel
theorem dX12_may_199 : decode cX12_may 199 = .ok (.getfield 86, 3) := by decide +kernel
theorem dX12_may_202 : decode cX12_may 202 = .ok (.iconst 3, 1) := by decide +kernel
theorem dX12_may_203 : decode cX12_may 203 = .ok (.iload 6, 2) := by decide +kernel
theorem dX12_may_205 : decode cX12_may 205 = .ok (.iastore, 1) := by decide +kernel
theorem dX12_may_206 : decode cX12_may 206 = .ok (.aload_n 0, 1) := by decide +kernel
theorem dX12_may_207 : decode cX12_may 207 = .ok (.getfield 86, 3) := by decide +kernel
theorem dX12_may_210 : decode cX12_may 210 = .ok (.iconst 4, 1) := by decide +kernel
theorem dX12_may_211 : decode cX12_may 211 = .ok (.iconst 0, 1) := by decide +kernel
theorem dX12_may_212 : decode cX12_may 212 = .ok (.iastore, 1) := by decide +kernel
theorem dX12_may_213 : decode cX12_may 213 = .ok (.aload_n 0, 1) := by decide +kernel
theorem dX12_may_214 : decode cX12_may 214 = .ok (.getfield 86, 3) := by decide +kernel
theorem dX12_may_217 : decode cX12_may 217 = .ok (.iconst 5, 1) := by decide +kernel
theorem dX12_may_218 : decode cX12_may 218 = .ok (.iconst 0, 1) := by decide +kernel
theorem dX12_may_219 : decode cX12_may 219 = .ok (.iastore, 1) := by decide +kernel
theorem dX12_may_220 : decode cX12_may 220 = .ok (.iconst 0, 1) := by decide +kernel
theorem dX12_may_221 : decode cX12_may 221 = .ok (.istore 7, 2) := by decide +kernel
theorem dX12_may_223 : decode cX12_may 223 = .ok (.iconst 0, 1) := by decide +kernel
theorem dX12_may_224 : decode cX12_may 224 = .ok (.istore 8, 2) := by decide +kernel
theorem dX12_may_226 : decode cX12_may 226 = .ok (.iload 8, 2) := by decide +kernel
theorem dX12_may_228 : decode cX12_may 228 = .ok (.iload 4, 2) := by decide +kernel
theorem dX12_may_230 : decode cX12_may 230 = .ok (.if_icmp .ge 71, 3) := by decide +kernel
theorem dX12_may_233 : decode cX12_may 233 = .ok (.aload_n 0, 1) := by decide +kernel
theorem dX12_may_234 : decode cX12_may 234 = .ok (.getfield 13, 3) := by decide +kernel
theorem dX12_may_237 : decode cX12_may 237 = .ok (.iload 5, 2) := by decide +kernel
theorem dX12_may_239 : decode cX12_may 239 = .ok (.iload 8, 2) := by decide +kernel
theorem dX12_may_241 : decode cX12_may 241 = .ok (.iadd, 1) := by decide +kernel
theorem dX12_may_242 : decode cX12_may 242 = .ok (.iaload, 1) := by decide +kernel
theorem dX12_may_243 : decode cX12_may 243 = .ok (.istore 9, 2) := by decide +kernel
theorem dX12_may_245 : decode cX12_may 245 = .ok (.iload 9, 2) := by decide +kernel
theorem dX12_may_247 : decode cX12_may 247 = .ok (.aload_n 0, 1) := by decide +kernel
theorem dX12_may_248 : decode cX12_may 248 = .ok (.getfield 25, 3) := by decide +kernel
theorem dX12_may_251 : decode cX12_may 251 = .ok (.if_icmp .lt 17, 3) := by decide +kernel
theorem dX12_may_254 : decode cX12_may 254 = .ok (.aload_n 0, 1) := by decide +kernel
theorem dX12_may_255 : decode cX12_may 255 = .ok (.getfield 86, 3) := by decide +kernel
theorem dX12_may_258 : decode cX12_may 258 = .ok (.iconst 4, 1) := by decide +kernel
theorem dX12_may_259 : decode cX12_may 259 = .ok (.aload_n 0, 1) := by decide +kernel
theorem dX12_may_260 : decode cX12_may 260 = .ok (.getfield 86, 3) := by decide +kernel
theorem dX12_may_263 : decode cX12_may 263 = .ok (.iconst 4, 1) := by decide +kernel
theorem dX12_may_264 : decode cX12_may 264 = .ok (.iaload, 1) := by decide +kernel
theorem dX12_may_265 : decode cX12_may 265 = .ok (.iconst 1, 1) := by decide +kernel
theorem dX12_may_266 : decode cX12_may 266 = .ok (.iadd, 1) := by decide +kernel
theorem dX12_may_267 : decode cX12_may 267 = .ok (.iastore, 1) := by decide +kernel
theorem dX12_may_268 : decode cX12_may 268 = .ok (.iload 7, 2) := by decide +kernel
theorem dX12_may_270 : decode cX12_may 270 = .ok (.iload 9, 2) := by decide +kernel
theorem dX12_may_272 : decode cX12_may 272 = .ok (.ishr, 1) := by decide +kernel
theorem dX12_may_273 : decode cX12_may 273 = .ok (.iconst 1, 1) := by decide +kernel
theorem dX12_may_274 : decode cX12_may 274 = .ok (.iand, 1) := by decide +kernel
theorem dX12_may_275 : decode cX12_may 275 = .ok (.iconst 1, 1) := by decide +kernel
theorem dX12_may_276 : decode cX12_may 276 = .ok (.if_icmp .ne 10, 3) := by decide +kernel
theorem dX12_may_279 : decode cX12_may 279 = .ok (.aload_n 0, 1) := by decide +kernel
theorem dX12_may_280 : decode cX12_may 280 = .ok (.getfield 86, 3) := by decide +kernel
theorem dX12_may_283 : decode cX12_may 283 = .ok (.iconst 5, 1) := by decide +kernel
theorem dX12_may_284 : decode cX12_may 284 = .ok (.iconst 1, 1) := by decide +kernel
theorem dX12_may_285 : decode cX12_may 285 = .ok (.iastore, 1) := by decide +kernel
theorem dX12_may_286 : decode cX12_may 286 = .ok (.iload 7, 2) := by decide +kernel
theorem dX12_may_288 : decode cX12_may 288 = .ok (.iconst 1, 1) := by decide +kernel
theorem dX12_may_289 : decode cX12_may 289 = .ok (.iload 9, 2) := by decide +kernel
theorem dX12_may_291 : decode cX12_may 291 = .ok (.ishl, 1) := by decide +kernel
theorem dX12_may_292 : decode cX12_may 292 = .ok (.ior, 1) := by decide +kernel
theorem dX12_may_293 : decode cX12_may 293 = .ok (.istore 7, 2) := by decide +kernel
theorem dX12_may_295 : decode cX12_may 295 = .ok (.iinc 8 1, 3) := by decide +kernel
theorem dX12_may_298 : decode cX12_may 298 = .ok (.goto (-72), 3) := by decide +kernel
theorem dX12_may_301 : decode cX12_may 301 = .ok (.aload_n 0, 1) := by decide +kernel
theorem dX12_may_302 : decode cX12_may 302 = .ok (.getfield 86, 3) := by decide +kernel
theorem dX12_may_305 : decode cX12_may 305 = .ok (.bipush 6, 2) := by decide +kernel
theorem dX12_may_307 : decode cX12_may 307 = .ok (.aload_n 0, 1) := by decide +kernel
theorem dX12_may_308 : decode cX12_may 308 = .ok (.getfield 19, 3) := by decide +kernel
theorem dX12_may_311 : decode cX12_may 311 = .ok (.iload_n 1, 1) := by decide +kernel
theorem dX12_may_312 : decode cX12_may 312 = .ok (.iaload, 1) := by decide +kernel
theorem dX12_may_313 : decode cX12_may 313 = .ok (.iastore, 1) := by decide +kernel
theorem dX12_may_314 : decode cX12_may 314 = .ok (.aload_n 0, 1) := by decide +kernel
theorem dX12_may_315 : decode cX12_may 315 = .ok (.getfield 86, 3) := by decide +kernel
theorem dX12_may_318 : decode cX12_may 318 = .ok (.bipush 7, 2) := by decide +kernel
theorem dX12_may_320 : decode cX12_may 320 = .ok (.aload_n 0, 1) := by decide +kernel
theorem dX12_may_321 : decode cX12_may 321 = .ok (.getfield 22, 3) := by decide +kernel
theorem dX12_may_324 : decode cX12_may 324 = .ok (.iload_n 1, 1) := by decide +kernel
theorem dX12_may_325 : decode cX12_may 325 = .ok (.iaload, 1) := by decide +kernel
theorem dX12_may_326 : decode cX12_may 326 = .ok (.iastore, 1) := by decide +kernel
theorem dX12_may_327 : decode cX12_may 327 = .ok (.aload_n 0, 1) := by decide +kernel
theorem dX12_may_328 : decode cX12_may 328 = .ok (.getfield 86, 3) := by decide +kernel
theorem dX12_may_331 : decode cX12_may 331 = .ok (.bipush 8, 2) := by decide +kernel
theorem dX12_may_333 : decode cX12_may 333 = .ok (.aload_n 0, 1) := by decide +kernel
theorem dX12_may_334 : decode cX12_may 334 = .ok (.getfield 16, 3) := by decide +kernel
theorem dX12_may_337 : decode cX12_may 337 = .ok (.iload_n 1, 1) := by decide +kernel
theorem dX12_may_338 : decode cX12_may 338 = .ok (.iaload, 1) := by decide +kernel
theorem dX12_may_339 : decode cX12_may 339 = .ok (.iastore, 1) := by decide +kernel
theorem dX12_may_340 : decode cX12_may 340 = .ok (.aload_n 0, 1) := by decide +kernel
theorem dX12_may_341 : decode cX12_may 341 = .ok (.getfield 86, 3) := by decide +kernel
theorem dX12_may_344 : decode cX12_may 344 = .ok (.bipush 9, 2) := by decide +kernel
theorem dX12_may_346 : decode cX12_may 346 = .ok (.iload_n 3, 1) := by decide +kernel
theorem dX12_may_347 : decode cX12_may 347 = .ok (.iastore, 1) := by decide +kernel
theorem dX12_may_348 : decode cX12_may 348 = .ok (.iconst 0, 1) := by decide +kernel
theorem dX12_may_349 : decode cX12_may 349 = .ok (.istore 8, 2) := by decide +kernel
theorem dX12_may_351 : decode cX12_may 351 = .ok (.iload 8, 2) := by decide +kernel
theorem dX12_may_353 : decode cX12_may 353 = .ok (.aload_n 0, 1) := by decide +kernel
theorem dX12_may_354 : decode cX12_may 354 = .ok (.getfield 180, 3) := by decide +kernel
theorem dX12_may_357 : decode cX12_may 357 = .ok (.if_icmp .ge 35, 3) := by decide +kernel
theorem dX12_may_360 : decode cX12_may 360 = .ok (.aload_n 0, 1) := by decide +kernel
theorem dX12_may_361 : decode cX12_may 361 = .ok (.iconst 0, 1) := by decide +kernel
theorem dX12_may_362 : decode cX12_may 362 = .ok (.iload 8, 2) := by decide +kernel
theorem dX12_may_364 : decode cX12_may 364 = .ok (.invokevirtual 331, 3) := by decide +kernel
theorem dX12_may_367 : decode cX12_may 367 = .ok (.ifCond .eq 19, 3) := by decide +kernel
theorem dX12_may_370 : decode cX12_may 370 = .ok (.aload_n 0, 1) := by decide +kernel
theorem dX12_may_371 : decode cX12_may 371 = .ok (.getfield 65, 3) := by decide +kernel
theorem dX12_may_374 : decode cX12_may 374 = .ok (.iload 8, 2) := by decide +kernel
theorem dX12_may_376 : decode cX12_may 376 = .ok (.iaload, 1) := by decide +kernel
theorem dX12_may_377 : decode cX12_may 377 = .ok (.ifCond .ne 7, 3) := by decide +kernel
theorem dX12_may_380 : decode cX12_may 380 = .ok (.iconst 1, 1) := by decide +kernel
theorem dX12_may_381 : decode cX12_may 381 = .ok (.goto 4, 3) := by decide +kernel
theorem dX12_may_384 : decode cX12_may 384 = .ok (.iconst 0, 1) := by decide +kernel
theorem dX12_may_385 : decode cX12_may 385 = .ok (.ireturn, 1) := by decide +kernel
theorem dX12_may_386 : decode cX12_may 386 = .ok (.iinc 8 1, 3) := by decide +kernel
theorem dX12_may_389 : decode cX12_may 389 = .ok (.goto (-38), 3) := by decide +kernel
theorem dX12_may_392 : decode cX12_may 392 = .ok (.iconst 1, 1) := by decide +kernel
theorem dX12_may_393 : decode cX12_may 393 = .ok (.ireturn, 1) := by decide +kernel
theorem dX12_feeOf_0 : decode cX12_feeOf 0 = .ok (.iconst 0, 1) := by decide +kernel
theorem dX12_feeOf_1 : decode cX12_feeOf 1 = .ok (.istore_n 3, 1) := by decide +kernel
theorem dX12_feeOf_2 : decode cX12_feeOf 2 = .ok (.iload_n 3, 1) := by decide +kernel
theorem dX12_feeOf_3 : decode cX12_feeOf 3 = .ok (.aload_n 0, 1) := by decide +kernel
theorem dX12_feeOf_4 : decode cX12_feeOf 4 = .ok (.getfield 7, 3) := by decide +kernel
theorem dX12_feeOf_7 : decode cX12_feeOf 7 = .ok (.iload_n 2, 1) := by decide +kernel
theorem dX12_feeOf_8 : decode cX12_feeOf 8 = .ok (.iaload, 1) := by decide +kernel
theorem dX12_feeOf_9 : decode cX12_feeOf 9 = .ok (.if_icmp .gt 23, 3) := by decide +kernel
theorem dX12_feeOf_12 : decode cX12_feeOf 12 = .ok (.aload_n 0, 1) := by decide +kernel
theorem dX12_feeOf_13 : decode cX12_feeOf 13 = .ok (.getfield 101, 3) := by decide +kernel
theorem dX12_feeOf_16 : decode cX12_feeOf 16 = .ok (.iload_n 3, 1) := by decide +kernel
theorem dX12_feeOf_17 : decode cX12_feeOf 17 = .ok (.iload_n 3, 1) := by decide +kernel
theorem dX12_feeOf_18 : decode cX12_feeOf 18 = .ok (.aload_n 0, 1) := by decide +kernel
theorem dX12_feeOf_19 : decode cX12_feeOf 19 = .ok (.getfield 32, 3) := by decide +kernel
theorem dX12_feeOf_22 : decode cX12_feeOf 22 = .ok (.iconst 3, 1) := by decide +kernel
theorem dX12_feeOf_23 : decode cX12_feeOf 23 = .ok (.iaload, 1) := by decide +kernel
theorem dX12_feeOf_24 : decode cX12_feeOf 24 = .ok (.imul, 1) := by decide +kernel
theorem dX12_feeOf_25 : decode cX12_feeOf 25 = .ok (.iastore, 1) := by decide +kernel
theorem dX12_feeOf_26 : decode cX12_feeOf 26 = .ok (.iinc 3 1, 3) := by decide +kernel
theorem dX12_feeOf_29 : decode cX12_feeOf 29 = .ok (.goto (-27), 3) := by decide +kernel
theorem dX12_feeOf_32 : decode cX12_feeOf 32 = .ok (.iconst 1, 1) := by decide +kernel
theorem dX12_feeOf_33 : decode cX12_feeOf 33 = .ok (.istore_n 3, 1) := by decide +kernel
theorem dX12_feeOf_34 : decode cX12_feeOf 34 = .ok (.iload_n 3, 1) := by decide +kernel
theorem dX12_feeOf_35 : decode cX12_feeOf 35 = .ok (.aload_n 0, 1) := by decide +kernel
theorem dX12_feeOf_36 : decode cX12_feeOf 36 = .ok (.getfield 7, 3) := by decide +kernel
theorem dX12_feeOf_39 : decode cX12_feeOf 39 = .ok (.iload_n 1, 1) := by decide +kernel
theorem dX12_feeOf_40 : decode cX12_feeOf 40 = .ok (.iaload, 1) := by decide +kernel
theorem dX12_feeOf_41 : decode cX12_feeOf 41 = .ok (.if_icmp .gt 224, 3) := by decide +kernel
theorem dX12_feeOf_44 : decode cX12_feeOf 44 = .ok (.aload_n 0, 1) := by decide +kernel
theorem dX12_feeOf_45 : decode cX12_feeOf 45 = .ok (.getfield 104, 3) := by decide +kernel
theorem dX12_feeOf_48 : decode cX12_feeOf 48 = .ok (.iconst 0, 1) := by decide +kernel
theorem dX12_feeOf_49 : decode cX12_feeOf 49 = .ok (.iload_n 3, 1) := by decide +kernel
theorem dX12_feeOf_50 : decode cX12_feeOf 50 = .ok (.aload_n 0, 1) := by decide +kernel
theorem dX12_feeOf_51 : decode cX12_feeOf 51 = .ok (.getfield 32, 3) := by decide +kernel
theorem dX12_feeOf_54 : decode cX12_feeOf 54 = .ok (.iconst 4, 1) := by decide +kernel
theorem dX12_feeOf_55 : decode cX12_feeOf 55 = .ok (.iaload, 1) := by decide +kernel
theorem dX12_feeOf_56 : decode cX12_feeOf 56 = .ok (.imul, 1) := by decide +kernel
theorem dX12_feeOf_57 : decode cX12_feeOf 57 = .ok (.iastore, 1) := by decide +kernel
theorem dX12_feeOf_58 : decode cX12_feeOf 58 = .ok (.iconst 1, 1) := by decide +kernel
theorem dX12_feeOf_59 : decode cX12_feeOf 59 = .ok (.istore 4, 2) := by decide +kernel
theorem dX12_feeOf_61 : decode cX12_feeOf 61 = .ok (.iload 4, 2) := by decide +kernel
theorem dX12_feeOf_63 : decode cX12_feeOf 63 = .ok (.aload_n 0, 1) := by decide +kernel
theorem dX12_feeOf_64 : decode cX12_feeOf 64 = .ok (.getfield 7, 3) := by decide +kernel
theorem dX12_feeOf_67 : decode cX12_feeOf 67 = .ok (.iload_n 2, 1) := by decide +kernel
theorem dX12_feeOf_68 : decode cX12_feeOf 68 = .ok (.iaload, 1) := by decide +kernel
theorem dX12_feeOf_69 : decode cX12_feeOf 69 = .ok (.if_icmp .gt 156, 3) := by decide +kernel
theorem dX12_feeOf_72 : decode cX12_feeOf 72 = .ok (.aload_n 0, 1) := by decide +kernel
theorem dX12_feeOf_73 : decode cX12_feeOf 73 = .ok (.getfield 13, 3) := by decide +kernel
theorem dX12_feeOf_76 : decode cX12_feeOf 76 = .ok (.bipush 6, 2) := by decide +kernel
theorem dX12_feeOf_78 : decode cX12_feeOf 78 = .ok (.iload_n 1, 1) := by decide +kernel
theorem dX12_feeOf_79 : decode cX12_feeOf 79 = .ok (.imul, 1) := by decide +kernel
theorem dX12_feeOf_80 : decode cX12_feeOf 80 = .ok (.iload_n 3, 1) := by decide +kernel
theorem dX12_feeOf_81 : decode cX12_feeOf 81 = .ok (.iadd, 1) := by decide +kernel
theorem dX12_feeOf_82 : decode cX12_feeOf 82 = .ok (.iconst 1, 1) := by decide +kernel
theorem dX12_feeOf_83 : decode cX12_feeOf 83 = .ok (.isub, 1) := by decide +kernel
theorem dX12_feeOf_84 : decode cX12_feeOf 84 = .ok (.iaload, 1) := by decide +kernel
theorem dX12_feeOf_85 : decode cX12_feeOf 85 = .ok (.aload_n 0, 1) := by decide +kernel
theorem dX12_feeOf_86 : decode cX12_feeOf 86 = .ok (.getfield 13, 3) := by decide +kernel
theorem dX12_feeOf_89 : decode cX12_feeOf 89 = .ok (.bipush 6, 2) := by decide +kernel
theorem dX12_feeOf_91 : decode cX12_feeOf 91 = .ok (.iload_n 2, 1) := by decide +kernel
theorem dX12_feeOf_92 : decode cX12_feeOf 92 = .ok (.imul, 1) := by decide +kernel
theorem dX12_feeOf_93 : decode cX12_feeOf 93 = .ok (.iload 4, 2) := by decide +kernel
theorem dX12_feeOf_95 : decode cX12_feeOf 95 = .ok (.iadd, 1) := by decide +kernel
theorem dX12_feeOf_96 : decode cX12_feeOf 96 = .ok (.iconst 1, 1) := by decide +kernel
theorem dX12_feeOf_97 : decode cX12_feeOf 97 = .ok (.isub, 1) := by decide +kernel
theorem dX12_feeOf_98 : decode cX12_feeOf 98 = .ok (.iaload, 1) := by decide +kernel
theorem dX12_feeOf_99 : decode cX12_feeOf 99 = .ok (.if_icmp .ne 7, 3) := by decide +kernel
theorem dX12_feeOf_102 : decode cX12_feeOf 102 = .ok (.iconst 1, 1) := by decide +kernel
theorem dX12_feeOf_103 : decode cX12_feeOf 103 = .ok (.goto 4, 3) := by decide +kernel
theorem dX12_feeOf_106 : decode cX12_feeOf 106 = .ok (.iconst 0, 1) := by decide +kernel
theorem dX12_feeOf_107 : decode cX12_feeOf 107 = .ok (.istore 5, 2) := by decide +kernel
theorem dX12_feeOf_109 : decode cX12_feeOf 109 = .ok (.aload_n 0, 1) := by decide +kernel
theorem dX12_feeOf_110 : decode cX12_feeOf 110 = .ok (.getfield 101, 3) := by decide +kernel
theorem dX12_feeOf_113 : decode cX12_feeOf 113 = .ok (.iload 4, 2) := by decide +kernel
theorem dX12_feeOf_115 : decode cX12_feeOf 115 = .ok (.iconst 1, 1) := by decide +kernel
theorem dX12_feeOf_116 : decode cX12_feeOf 116 = .ok (.isub, 1) := by decide +kernel
theorem dX12_feeOf_117 : decode cX12_feeOf 117 = .ok (.iaload, 1) := by decide +kernel
theorem dX12_feeOf_118 : decode cX12_feeOf 118 = .ok (.iload 5, 2) := by decide +kernel
theorem dX12_feeOf_120 : decode cX12_feeOf 120 = .ok (.ifCond .eq 7, 3) := by decide +kernel
theorem dX12_feeOf_123 : decode cX12_feeOf 123 = .ok (.iconst 0, 1) := by decide +kernel
theorem dX12_feeOf_124 : decode cX12_feeOf 124 = .ok (.goto 9, 3) := by decide +kernel
theorem dX12_feeOf_127 : decode cX12_feeOf 127 = .ok (.aload_n 0, 1) := by decide +kernel
theorem dX12_feeOf_128 : decode cX12_feeOf 128 = .ok (.getfield 32, 3) := by decide +kernel
theorem dX12_feeOf_131 : decode cX12_feeOf 131 = .ok (.iconst 2, 1) := by decide +kernel
theorem dX12_feeOf_132 : decode cX12_feeOf 132 = .ok (.iaload, 1) := by decide +kernel
theorem dX12_feeOf_133 : decode cX12_feeOf 133 = .ok (.iadd, 1) := by decide +kernel
theorem dX12_feeOf_134 : decode cX12_feeOf 134 = .ok (.istore 6, 2) := by decide +kernel
theorem dX12_feeOf_136 : decode cX12_feeOf 136 = .ok (.aload_n 0, 1) := by decide +kernel
theorem dX12_feeOf_137 : decode cX12_feeOf 137 = .ok (.getfield 101, 3) := by decide +kernel
theorem dX12_feeOf_140 : decode cX12_feeOf 140 = .ok (.iload 4, 2) := by decide +kernel
theorem dX12_feeOf_142 : decode cX12_feeOf 142 = .ok (.iaload, 1) := by decide +kernel
theorem dX12_feeOf_143 : decode cX12_feeOf 143 = .ok (.aload_n 0, 1) := by decide +kernel
theorem dX12_feeOf_144 : decode cX12_feeOf 144 = .ok (.getfield 32, 3) := by decide +kernel
theorem dX12_feeOf_147 : decode cX12_feeOf 147 = .ok (.iconst 4, 1) := by decide +kernel
theorem dX12_feeOf_148 : decode cX12_feeOf 148 = .ok (.iaload, 1) := by decide +kernel
theorem dX12_feeOf_149 : decode cX12_feeOf 149 = .ok (.iadd, 1) := by decide +kernel
theorem dX12_feeOf_150 : decode cX12_feeOf 150 = .ok (.iload 6, 2) := by decide +kernel
theorem dX12_feeOf_152 : decode cX12_feeOf 152 = .ok (.if_icmp .ge 19, 3) := by decide +kernel
theorem dX12_feeOf_155 : decode cX12_feeOf 155 = .ok (.aload_n 0, 1) := by decide +kernel
theorem dX12_feeOf_156 : decode cX12_feeOf 156 = .ok (.getfield 101, 3) := by decide +kernel
theorem dX12_feeOf_159 : decode cX12_feeOf 159 = .ok (.iload 4, 2) := by decide +kernel
theorem dX12_feeOf_161 : decode cX12_feeOf 161 = .ok (.iaload, 1) := by decide +kernel
theorem dX12_feeOf_162 : decode cX12_feeOf 162 = .ok (.aload_n 0, 1) := by decide +kernel
theorem dX12_feeOf_163 : decode cX12_feeOf 163 = .ok (.getfield 32, 3) := by decide +kernel
theorem dX12_feeOf_166 : decode cX12_feeOf 166 = .ok (.iconst 4, 1) := by decide +kernel
theorem dX12_feeOf_167 : decode cX12_feeOf 167 = .ok (.iaload, 1) := by decide +kernel
theorem dX12_feeOf_168 : decode cX12_feeOf 168 = .ok (.iadd, 1) := by decide +kernel
theorem dX12_feeOf_169 : decode cX12_feeOf 169 = .ok (.istore 6, 2) := by decide +kernel
theorem dX12_feeOf_171 : decode cX12_feeOf 171 = .ok (.aload_n 0, 1) := by decide +kernel
theorem dX12_feeOf_172 : decode cX12_feeOf 172 = .ok (.getfield 104, 3) := by decide +kernel
theorem dX12_feeOf_175 : decode cX12_feeOf 175 = .ok (.iload 4, 2) := by decide +kernel
theorem dX12_feeOf_177 : decode cX12_feeOf 177 = .ok (.iconst 1, 1) := by decide +kernel
theorem dX12_feeOf_178 : decode cX12_feeOf 178 = .ok (.isub, 1) := by decide +kernel
theorem dX12_feeOf_179 : decode cX12_feeOf 179 = .ok (.iaload, 1) := by decide +kernel
theorem dX12_feeOf_180 : decode cX12_feeOf 180 = .ok (.aload_n 0, 1) := by decide +kernel
theorem dX12_feeOf_181 : decode cX12_feeOf 181 = .ok (.getfield 32, 3) := by decide +kernel
theorem dX12_feeOf_184 : decode cX12_feeOf 184 = .ok (.iconst 3, 1) := by decide +kernel
theorem dX12_feeOf_185 : decode cX12_feeOf 185 = .ok (.iaload, 1) := by decide +kernel
theorem dX12_feeOf_186 : decode cX12_feeOf 186 = .ok (.iadd, 1) := by decide +kernel
theorem dX12_feeOf_187 : decode cX12_feeOf 187 = .ok (.iload 6, 2) := by decide +kernel
theorem dX12_feeOf_189 : decode cX12_feeOf 189 = .ok (.if_icmp .ge 21, 3) := by decide +kernel
theorem dX12_feeOf_192 : decode cX12_feeOf 192 = .ok (.aload_n 0, 1) := by decide +kernel
theorem dX12_feeOf_193 : decode cX12_feeOf 193 = .ok (.getfield 104, 3) := by decide +kernel
theorem dX12_feeOf_196 : decode cX12_feeOf 196 = .ok (.iload 4, 2) := by decide +kernel
theorem dX12_feeOf_198 : decode cX12_feeOf 198 = .ok (.iconst 1, 1) := by decide +kernel
theorem dX12_feeOf_199 : decode cX12_feeOf 199 = .ok (.isub, 1) := by decide +kernel
theorem dX12_feeOf_200 : decode cX12_feeOf 200 = .ok (.iaload, 1) := by decide +kernel
theorem dX12_feeOf_201 : decode cX12_feeOf 201 = .ok (.aload_n 0, 1) := by decide +kernel
theorem dX12_feeOf_202 : decode cX12_feeOf 202 = .ok (.getfield 32, 3) := by decide +kernel
theorem dX12_feeOf_205 : decode cX12_feeOf 205 = .ok (.iconst 3, 1) := by decide +kernel
theorem dX12_feeOf_206 : decode cX12_feeOf 206 = .ok (.iaload, 1) := by decide +kernel
theorem dX12_feeOf_207 : decode cX12_feeOf 207 = .ok (.iadd, 1) := by decide +kernel
theorem dX12_feeOf_208 : decode cX12_feeOf 208 = .ok (.istore 6, 2) := by decide +kernel
theorem dX12_feeOf_210 : decode cX12_feeOf 210 = .ok (.aload_n 0, 1) := by decide +kernel
theorem dX12_feeOf_211 : decode cX12_feeOf 211 = .ok (.getfield 104, 3) := by decide +kernel
theorem dX12_feeOf_214 : decode cX12_feeOf 214 = .ok (.iload 4, 2) := by decide +kernel
theorem dX12_feeOf_216 : decode cX12_feeOf 216 = .ok (.iload 6, 2) := by decide +kernel
theorem dX12_feeOf_218 : decode cX12_feeOf 218 = .ok (.iastore, 1) := by decide +kernel
theorem dX12_feeOf_219 : decode cX12_feeOf 219 = .ok (.iinc 4 1, 3) := by decide +kernel
theorem dX12_feeOf_222 : decode cX12_feeOf 222 = .ok (.goto (-161), 3) := by decide +kernel
theorem dX12_feeOf_225 : decode cX12_feeOf 225 = .ok (.iconst 0, 1) := by decide +kernel
theorem dX12_feeOf_226 : decode cX12_feeOf 226 = .ok (.istore 4, 2) := by decide +kernel
theorem dX12_feeOf_228 : decode cX12_feeOf 228 = .ok (.iload 4, 2) := by decide +kernel
theorem dX12_feeOf_230 : decode cX12_feeOf 230 = .ok (.aload_n 0, 1) := by decide +kernel
theorem dX12_feeOf_231 : decode cX12_feeOf 231 = .ok (.getfield 7, 3) := by decide +kernel
theorem dX12_feeOf_234 : decode cX12_feeOf 234 = .ok (.iload_n 2, 1) := by decide +kernel
theorem dX12_feeOf_235 : decode cX12_feeOf 235 = .ok (.iaload, 1) := by decide +kernel
theorem dX12_feeOf_236 : decode cX12_feeOf 236 = .ok (.if_icmp .gt 23, 3) := by decide +kernel
theorem dX12_feeOf_239 : decode cX12_feeOf 239 = .ok (.aload_n 0, 1) := by decide +kernel
theorem dX12_feeOf_240 : decode cX12_feeOf 240 = .ok (.getfield 101, 3) := by decide +kernel
theorem dX12_feeOf_243 : decode cX12_feeOf 243 = .ok (.iload 4, 2) := by decide +kernel
theorem dX12_feeOf_245 : decode cX12_feeOf 245 = .ok (.aload_n 0, 1) := by decide +kernel
theorem dX12_feeOf_246 : decode cX12_feeOf 246 = .ok (.getfield 104, 3) := by decide +kernel
theorem dX12_feeOf_249 : decode cX12_feeOf 249 = .ok (.iload 4, 2) := by decide +kernel
theorem dX12_feeOf_251 : decode cX12_feeOf 251 = .ok (.iaload, 1) := by decide +kernel
theorem dX12_feeOf_252 : decode cX12_feeOf 252 = .ok (.iastore, 1) := by decide +kernel
theorem dX12_feeOf_253 : decode cX12_feeOf 253 = .ok (.iinc 4 1, 3) := by decide +kernel
theorem dX12_feeOf_256 : decode cX12_feeOf 256 = .ok (.goto (-28), 3) := by decide +kernel
theorem dX12_feeOf_259 : decode cX12_feeOf 259 = .ok (.iinc 3 1, 3) := by decide +kernel
theorem dX12_feeOf_262 : decode cX12_feeOf 262 = .ok (.goto (-228), 3) := by decide +kernel
theorem dX12_feeOf_265 : decode cX12_feeOf 265 = .ok (.aload_n 0, 1) := by decide +kernel
theorem dX12_feeOf_266 : decode cX12_feeOf 266 = .ok (.getfield 101, 3) := by decide +kernel
theorem dX12_feeOf_269 : decode cX12_feeOf 269 = .ok (.aload_n 0, 1) := by decide +kernel
theorem dX12_feeOf_270 : decode cX12_feeOf 270 = .ok (.getfield 7, 3) := by decide +kernel
theorem dX12_feeOf_273 : decode cX12_feeOf 273 = .ok (.iload_n 2, 1) := by decide +kernel
theorem dX12_feeOf_274 : decode cX12_feeOf 274 = .ok (.iaload, 1) := by decide +kernel
theorem dX12_feeOf_275 : decode cX12_feeOf 275 = .ok (.iaload, 1) := by decide +kernel
theorem dX12_feeOf_276 : decode cX12_feeOf 276 = .ok (.ireturn, 1) := by decide +kernel
theorem dX12_worthWith_0 : decode cX12_worthWith 0 = .ok (.aload_n 0, 1) := by decide +kernel
theorem dX12_worthWith_1 : decode cX12_worthWith 1 = .ok (.getfield 7, 3) := by decide +kernel
theorem dX12_worthWith_4 : decode cX12_worthWith 4 = .ok (.iload_n 1, 1) := by decide +kernel
theorem dX12_worthWith_5 : decode cX12_worthWith 5 = .ok (.iaload, 1) := by decide +kernel
theorem dX12_worthWith_6 : decode cX12_worthWith 6 = .ok (.istore_n 3, 1) := by decide +kernel
theorem dX12_worthWith_7 : decode cX12_worthWith 7 = .ok (.iconst 0, 1) := by decide +kernel
theorem dX12_worthWith_8 : decode cX12_worthWith 8 = .ok (.istore 4, 2) := by decide +kernel
theorem dX12_worthWith_10 : decode cX12_worthWith 10 = .ok (.iload 4, 2) := by decide +kernel
theorem dX12_worthWith_12 : decode cX12_worthWith 12 = .ok (.bipush 6, 2) := by decide +kernel
theorem dX12_worthWith_14 : decode cX12_worthWith 14 = .ok (.if_icmp .ge 28, 3) := by decide +kernel
theorem dX12_worthWith_17 : decode cX12_worthWith 17 = .ok (.aload_n 0, 1) := by decide +kernel
theorem dX12_worthWith_18 : decode cX12_worthWith 18 = .ok (.getfield 107, 3) := by decide +kernel
theorem dX12_worthWith_21 : decode cX12_worthWith 21 = .ok (.iload 4, 2) := by decide +kernel
theorem dX12_worthWith_23 : decode cX12_worthWith 23 = .ok (.aload_n 0, 1) := by decide +kernel
theorem dX12_worthWith_24 : decode cX12_worthWith 24 = .ok (.getfield 13, 3) := by decide +kernel
theorem dX12_worthWith_27 : decode cX12_worthWith 27 = .ok (.bipush 6, 2) := by decide +kernel
theorem dX12_worthWith_29 : decode cX12_worthWith 29 = .ok (.iload_n 1, 1) := by decide +kernel
theorem dX12_worthWith_30 : decode cX12_worthWith 30 = .ok (.imul, 1) := by decide +kernel
theorem dX12_worthWith_31 : decode cX12_worthWith 31 = .ok (.iload 4, 2) := by decide +kernel
theorem dX12_worthWith_33 : decode cX12_worthWith 33 = .ok (.iadd, 1) := by decide +kernel
theorem dX12_worthWith_34 : decode cX12_worthWith 34 = .ok (.iaload, 1) := by decide +kernel
theorem dX12_worthWith_35 : decode cX12_worthWith 35 = .ok (.iastore, 1) := by decide +kernel
theorem dX12_worthWith_36 : decode cX12_worthWith 36 = .ok (.iinc 4 1, 3) := by decide +kernel
theorem dX12_worthWith_39 : decode cX12_worthWith 39 = .ok (.goto (-29), 3) := by decide +kernel
theorem dX12_worthWith_42 : decode cX12_worthWith 42 = .ok (.aload_n 0, 1) := by decide +kernel
theorem dX12_worthWith_43 : decode cX12_worthWith 43 = .ok (.iload_n 2, 1) := by decide +kernel
theorem dX12_worthWith_44 : decode cX12_worthWith 44 = .ok (.iload_n 1, 1) := by decide +kernel
theorem dX12_worthWith_45 : decode cX12_worthWith 45 = .ok (.invokevirtual 187, 3) := by decide +kernel
theorem dX12_worthWith_48 : decode cX12_worthWith 48 = .ok (.aload_n 0, 1) := by decide +kernel
theorem dX12_worthWith_49 : decode cX12_worthWith 49 = .ok (.iload_n 1, 1) := by decide +kernel
theorem dX12_worthWith_50 : decode cX12_worthWith 50 = .ok (.iconst 0, 1) := by decide +kernel
theorem dX12_worthWith_51 : decode cX12_worthWith 51 = .ok (.invokevirtual 328, 3) := by decide +kernel
theorem dX12_worthWith_54 : decode cX12_worthWith 54 = .ok (.istore 4, 2) := by decide +kernel
theorem dX12_worthWith_56 : decode cX12_worthWith 56 = .ok (.aload_n 0, 1) := by decide +kernel
theorem dX12_worthWith_57 : decode cX12_worthWith 57 = .ok (.getfield 7, 3) := by decide +kernel
theorem dX12_worthWith_60 : decode cX12_worthWith 60 = .ok (.iload_n 1, 1) := by decide +kernel
theorem dX12_worthWith_61 : decode cX12_worthWith 61 = .ok (.iload_n 3, 1) := by decide +kernel
theorem dX12_worthWith_62 : decode cX12_worthWith 62 = .ok (.iastore, 1) := by decide +kernel
theorem dX12_worthWith_63 : decode cX12_worthWith 63 = .ok (.iconst 0, 1) := by decide +kernel
theorem dX12_worthWith_64 : decode cX12_worthWith 64 = .ok (.istore 5, 2) := by decide +kernel
theorem dX12_worthWith_66 : decode cX12_worthWith 66 = .ok (.iload 5, 2) := by decide +kernel
theorem dX12_worthWith_68 : decode cX12_worthWith 68 = .ok (.bipush 6, 2) := by decide +kernel
theorem dX12_worthWith_70 : decode cX12_worthWith 70 = .ok (.if_icmp .ge 28, 3) := by decide +kernel
theorem dX12_worthWith_73 : decode cX12_worthWith 73 = .ok (.aload_n 0, 1) := by decide +kernel
theorem dX12_worthWith_74 : decode cX12_worthWith 74 = .ok (.getfield 13, 3) := by decide +kernel
theorem dX12_worthWith_77 : decode cX12_worthWith 77 = .ok (.bipush 6, 2) := by decide +kernel
theorem dX12_worthWith_79 : decode cX12_worthWith 79 = .ok (.iload_n 1, 1) := by decide +kernel
theorem dX12_worthWith_80 : decode cX12_worthWith 80 = .ok (.imul, 1) := by decide +kernel
theorem dX12_worthWith_81 : decode cX12_worthWith 81 = .ok (.iload 5, 2) := by decide +kernel
theorem dX12_worthWith_83 : decode cX12_worthWith 83 = .ok (.iadd, 1) := by decide +kernel
theorem dX12_worthWith_84 : decode cX12_worthWith 84 = .ok (.aload_n 0, 1) := by decide +kernel
theorem dX12_worthWith_85 : decode cX12_worthWith 85 = .ok (.getfield 107, 3) := by decide +kernel
theorem dX12_worthWith_88 : decode cX12_worthWith 88 = .ok (.iload 5, 2) := by decide +kernel
theorem dX12_worthWith_90 : decode cX12_worthWith 90 = .ok (.iaload, 1) := by decide +kernel
theorem dX12_worthWith_91 : decode cX12_worthWith 91 = .ok (.iastore, 1) := by decide +kernel
theorem dX12_worthWith_92 : decode cX12_worthWith 92 = .ok (.iinc 5 1, 3) := by decide +kernel
theorem dX12_worthWith_95 : decode cX12_worthWith 95 = .ok (.goto (-29), 3) := by decide +kernel
theorem dX12_worthWith_98 : decode cX12_worthWith 98 = .ok (.iload 4, 2) := by decide +kernel
theorem dX12_worthWith_100 : decode cX12_worthWith 100 = .ok (.ireturn, 1) := by decide +kernel
theorem dX12_gainOf_0 : decode cX12_gainOf 0 = .ok (.aload_n 0, 1) := by decide +kernel
theorem dX12_gainOf_1 : decode cX12_gainOf 1 = .ok (.iload_n 1, 1) := by decide +kernel
theorem dX12_gainOf_2 : decode cX12_gainOf 2 = .ok (.iconst 0, 1) := by decide +kernel
theorem dX12_gainOf_3 : decode cX12_gainOf 3 = .ok (.invokevirtual 328, 3) := by decide +kernel
theorem dX12_gainOf_6 : decode cX12_gainOf 6 = .ok (.istore_n 3, 1) := by decide +kernel
theorem dX12_gainOf_7 : decode cX12_gainOf 7 = .ok (.aload_n 0, 1) := by decide +kernel
theorem dX12_gainOf_8 : decode cX12_gainOf 8 = .ok (.getfield 32, 3) := by decide +kernel
theorem dX12_gainOf_11 : decode cX12_gainOf 11 = .ok (.iconst 5, 1) := by decide +kernel
theorem dX12_gainOf_12 : decode cX12_gainOf 12 = .ok (.iaload, 1) := by decide +kernel
theorem dX12_gainOf_13 : decode cX12_gainOf 13 = .ok (.aload_n 0, 1) := by decide +kernel
theorem dX12_gainOf_14 : decode cX12_gainOf 14 = .ok (.iload_n 1, 1) := by decide +kernel
theorem dX12_gainOf_15 : decode cX12_gainOf 15 = .ok (.iload_n 2, 1) := by decide +kernel
theorem dX12_gainOf_16 : decode cX12_gainOf 16 = .ok (.invokevirtual 334, 3) := by decide +kernel
theorem dX12_gainOf_19 : decode cX12_gainOf 19 = .ok (.iload_n 3, 1) := by decide +kernel
theorem dX12_gainOf_20 : decode cX12_gainOf 20 = .ok (.isub, 1) := by decide +kernel
theorem dX12_gainOf_21 : decode cX12_gainOf 21 = .ok (.imul, 1) := by decide +kernel
theorem dX12_gainOf_22 : decode cX12_gainOf 22 = .ok (.aload_n 0, 1) := by decide +kernel
theorem dX12_gainOf_23 : decode cX12_gainOf 23 = .ok (.iload_n 1, 1) := by decide +kernel
theorem dX12_gainOf_24 : decode cX12_gainOf 24 = .ok (.iload_n 2, 1) := by decide +kernel
theorem dX12_gainOf_25 : decode cX12_gainOf 25 = .ok (.invokevirtual 337, 3) := by decide +kernel
theorem dX12_gainOf_28 : decode cX12_gainOf 28 = .ok (.isub, 1) := by decide +kernel
theorem dX12_gainOf_29 : decode cX12_gainOf 29 = .ok (.ireturn, 1) := by decide +kernel
theorem dX12_with_0 : decode cX12_with 0 = .ok (.aload_n 0, 1) := by decide +kernel
theorem dX12_with_1 : decode cX12_with 1 = .ok (.iconst 0, 1) := by decide +kernel
theorem dX12_with_2 : decode cX12_with 2 = .ok (.putfield 146, 3) := by decide +kernel
theorem dX12_with_5 : decode cX12_with 5 = .ok (.aload_n 0, 1) := by decide +kernel
theorem dX12_with_6 : decode cX12_with 6 = .ok (.invokevirtual 183, 3) := by decide +kernel
theorem dX12_with_9 : decode cX12_with 9 = .ok (.istore_n 3, 1) := by decide +kernel
theorem dX12_with_10 : decode cX12_with 10 = .ok (.iload_n 3, 1) := by decide +kernel
theorem dX12_with_11 : decode cX12_with 11 = .ok (.ifCond .eq 21, 3) := by decide +kernel
theorem dX12_with_14 : decode cX12_with 14 = .ok (.aload_n 0, 1) := by decide +kernel
theorem dX12_with_15 : decode cX12_with 15 = .ok (.iload_n 1, 1) := by decide +kernel
theorem dX12_with_16 : decode cX12_with 16 = .ok (.invokevirtual 191, 3) := by decide +kernel
theorem dX12_with_19 : decode cX12_with 19 = .ok (.ifCond .eq 13, 3) := by decide +kernel
theorem dX12_with_22 : decode cX12_with 22 = .ok (.aload_n 0, 1) := by decide +kernel
theorem dX12_with_23 : decode cX12_with 23 = .ok (.iload_n 2, 1) := by decide +kernel
theorem dX12_with_24 : decode cX12_with 24 = .ok (.iconst 0, 1) := by decide +kernel
theorem dX12_with_25 : decode cX12_with 25 = .ok (.iconst 3, 1) := by decide +kernel
theorem dX12_with_26 : decode cX12_with 26 = .ok (.invokevirtual 160, 3) := by decide +kernel
theorem dX12_with_29 : decode cX12_with 29 = .ok (.ifCond .ne 7, 3) := by decide +kernel
theorem dX12_with_32 : decode cX12_with 32 = .ok (.ldc_w 327, 3) := by decide +kernel
theorem dX12_with_35 : decode cX12_with 35 = .ok (.ireturn, 1) := by decide +kernel
theorem dX12_with_36 : decode cX12_with 36 = .ok (.iload_n 2, 1) := by decide +kernel
theorem dX12_with_37 : decode cX12_with 37 = .ok (.ifCond .ne 25, 3) := by decide +kernel
theorem dX12_with_40 : decode cX12_with 40 = .ok (.aload_n 0, 1) := by decide +kernel
theorem dX12_with_41 : decode cX12_with 41 = .ok (.iload_n 1, 1) := by decide +kernel
theorem dX12_with_42 : decode cX12_with 42 = .ok (.bipush 30, 2) := by decide +kernel
theorem dX12_with_44 : decode cX12_with 44 = .ok (.aload_n 0, 1) := by decide +kernel
theorem dX12_with_45 : decode cX12_with 45 = .ok (.iload_n 1, 1) := by decide +kernel
theorem dX12_with_46 : decode cX12_with 46 = .ok (.iconst 0, 1) := by decide +kernel
theorem dX12_with_47 : decode cX12_with 47 = .ok (.invokevirtual 328, 3) := by decide +kernel
theorem dX12_with_50 : decode cX12_with 50 = .ok (.invokevirtual 340, 3) := by decide +kernel
theorem dX12_with_53 : decode cX12_with 53 = .ok (.ifCond .eq 7, 3) := by decide +kernel
theorem dX12_with_56 : decode cX12_with 56 = .ok (.iconst 1, 1) := by decide +kernel
theorem dX12_with_57 : decode cX12_with 57 = .ok (.goto 4, 3) := by decide +kernel
theorem dX12_with_60 : decode cX12_with 60 = .ok (.iconst 0, 1) := by decide +kernel
theorem dX12_with_61 : decode cX12_with 61 = .ok (.ireturn, 1) := by decide +kernel
theorem dX12_with_62 : decode cX12_with 62 = .ok (.iload_n 2, 1) := by decide +kernel
theorem dX12_with_63 : decode cX12_with 63 = .ok (.iconst 1, 1) := by decide +kernel
theorem dX12_with_64 : decode cX12_with 64 = .ok (.if_icmp .ne 13, 3) := by decide +kernel
theorem dX12_with_67 : decode cX12_with 67 = .ok (.aload_n 0, 1) := by decide +kernel
theorem dX12_with_68 : decode cX12_with 68 = .ok (.iload_n 1, 1) := by decide +kernel
theorem dX12_with_69 : decode cX12_with 69 = .ok (.bipush 30, 2) := by decide +kernel
theorem dX12_with_71 : decode cX12_with 71 = .ok (.invokevirtual 337, 3) := by decide +kernel
theorem dX12_with_74 : decode cX12_with 74 = .ok (.goto 25, 3) := by decide +kernel
theorem dX12_with_77 : decode cX12_with 77 = .ok (.iload_n 2, 1) := by decide +kernel
theorem dX12_with_78 : decode cX12_with 78 = .ok (.iconst 2, 1) := by decide +kernel
theorem dX12_with_79 : decode cX12_with 79 = .ok (.if_icmp .ne 13, 3) := by decide +kernel
theorem dX12_with_82 : decode cX12_with 82 = .ok (.aload_n 0, 1) := by decide +kernel
theorem dX12_with_83 : decode cX12_with 83 = .ok (.iload_n 1, 1) := by decide +kernel
theorem dX12_with_84 : decode cX12_with 84 = .ok (.bipush 30, 2) := by decide +kernel
theorem dX12_with_86 : decode cX12_with 86 = .ok (.invokevirtual 343, 3) := by decide +kernel
theorem dX12_with_89 : decode cX12_with 89 = .ok (.goto 10, 3) := by decide +kernel
theorem dX12_with_92 : decode cX12_with 92 = .ok (.aload_n 0, 1) := by decide +kernel
theorem dX12_with_93 : decode cX12_with 93 = .ok (.iload_n 1, 1) := by decide +kernel
theorem dX12_with_94 : decode cX12_with 94 = .ok (.bipush 30, 2) := by decide +kernel
theorem dX12_with_96 : decode cX12_with 96 = .ok (.invokevirtual 334, 3) := by decide +kernel
theorem dX12_with_99 : decode cX12_with 99 = .ok (.ireturn, 1) := by decide +kernel
theorem dX12_sell_0 : decode cX12_sell 0 = .ok (.aload_n 0, 1) := by decide +kernel
theorem dX12_sell_1 : decode cX12_sell 1 = .ok (.iconst 0, 1) := by decide +kernel
theorem dX12_sell_2 : decode cX12_sell 2 = .ok (.putfield 146, 3) := by decide +kernel
theorem dX12_sell_5 : decode cX12_sell 5 = .ok (.aload_n 0, 1) := by decide +kernel
theorem dX12_sell_6 : decode cX12_sell 6 = .ok (.invokevirtual 183, 3) := by decide +kernel
theorem dX12_sell_9 : decode cX12_sell 9 = .ok (.istore_n 1, 1) := by decide +kernel
theorem dX12_sell_10 : decode cX12_sell 10 = .ok (.iload_n 1, 1) := by decide +kernel
theorem dX12_sell_11 : decode cX12_sell 11 = .ok (.ifCond .eq 12, 3) := by decide +kernel
theorem dX12_sell_14 : decode cX12_sell 14 = .ok (.aload_n 0, 1) := by decide +kernel
theorem dX12_sell_15 : decode cX12_sell 15 = .ok (.getfield 171, 3) := by decide +kernel
theorem dX12_sell_18 : decode cX12_sell 18 = .ok (.bipush 10, 2) := by decide +kernel
theorem dX12_sell_20 : decode cX12_sell 20 = .ok (.if_icmp .ne 5, 3) := by decide +kernel
theorem dX12_sell_23 : decode cX12_sell 23 = .ok (.iconst (-1), 1) := by decide +kernel
theorem dX12_sell_24 : decode cX12_sell 24 = .ok (.ireturn, 1) := by decide +kernel
theorem dX12_sell_25 : decode cX12_sell 25 = .ok (.aload_n 0, 1) := by decide +kernel
theorem dX12_sell_26 : decode cX12_sell 26 = .ok (.bipush 30, 2) := by decide +kernel
theorem dX12_sell_28 : decode cX12_sell 28 = .ok (.bipush 20, 2) := by decide +kernel
theorem dX12_sell_30 : decode cX12_sell 30 = .ok (.aload_n 0, 1) := by decide +kernel
theorem dX12_sell_31 : decode cX12_sell 31 = .ok (.getfield 171, 3) := by decide +kernel
theorem dX12_sell_34 : decode cX12_sell 34 = .ok (.iadd, 1) := by decide +kernel
theorem dX12_sell_35 : decode cX12_sell 35 = .ok (.invokevirtual 187, 3) := by decide +kernel
theorem dX12_sell_38 : decode cX12_sell 38 = .ok (.aload_n 0, 1) := by decide +kernel
theorem dX12_sell_39 : decode cX12_sell 39 = .ok (.aload_n 0, 1) := by decide +kernel
theorem dX12_sell_40 : decode cX12_sell 40 = .ok (.getfield 171, 3) := by decide +kernel
theorem dX12_sell_43 : decode cX12_sell 43 = .ok (.iconst 1, 1) := by decide +kernel
theorem dX12_sell_44 : decode cX12_sell 44 = .ok (.iadd, 1) := by decide +kernel
theorem dX12_sell_45 : decode cX12_sell 45 = .ok (.putfield 171, 3) := by decide +kernel
theorem dX12_sell_48 : decode cX12_sell 48 = .ok (.aload_n 0, 1) := by decide +kernel
theorem dX12_sell_49 : decode cX12_sell 49 = .ok (.getfield 171, 3) := by decide +kernel
theorem dX12_sell_52 : decode cX12_sell 52 = .ok (.iconst 1, 1) := by decide +kernel
theorem dX12_sell_53 : decode cX12_sell 53 = .ok (.isub, 1) := by decide +kernel
theorem dX12_sell_54 : decode cX12_sell 54 = .ok (.ireturn, 1) := by decide +kernel
theorem dX12_take_0 : decode cX12_take 0 = .ok (.aload_n 0, 1) := by decide +kernel
theorem dX12_take_1 : decode cX12_take 1 = .ok (.iconst 0, 1) := by decide +kernel
theorem dX12_take_2 : decode cX12_take 2 = .ok (.putfield 146, 3) := by decide +kernel
theorem dX12_take_5 : decode cX12_take 5 = .ok (.aload_n 0, 1) := by decide +kernel
theorem dX12_take_6 : decode cX12_take 6 = .ok (.iload_n 1, 1) := by decide +kernel
theorem dX12_take_7 : decode cX12_take 7 = .ok (.invokevirtual 191, 3) := by decide +kernel
theorem dX12_take_10 : decode cX12_take 10 = .ok (.ifCond .eq 36, 3) := by decide +kernel
theorem dX12_take_13 : decode cX12_take 13 = .ok (.aload_n 0, 1) := by decide +kernel
theorem dX12_take_14 : decode cX12_take 14 = .ok (.iload_n 2, 1) := by decide +kernel
theorem dX12_take_15 : decode cX12_take 15 = .ok (.iconst 0, 1) := by decide +kernel
theorem dX12_take_16 : decode cX12_take 16 = .ok (.aload_n 0, 1) := by decide +kernel
theorem dX12_take_17 : decode cX12_take 17 = .ok (.getfield 171, 3) := by decide +kernel
theorem dX12_take_20 : decode cX12_take 20 = .ok (.iconst 1, 1) := by decide +kernel
theorem dX12_take_21 : decode cX12_take 21 = .ok (.isub, 1) := by decide +kernel
theorem dX12_take_22 : decode cX12_take 22 = .ok (.invokevirtual 160, 3) := by decide +kernel
theorem dX12_take_25 : decode cX12_take 25 = .ok (.ifCond .eq 21, 3) := by decide +kernel
theorem dX12_take_28 : decode cX12_take 28 = .ok (.aload_n 0, 1) := by decide +kernel
theorem dX12_take_29 : decode cX12_take 29 = .ok (.iload_n 1, 1) := by decide +kernel
theorem dX12_take_30 : decode cX12_take 30 = .ok (.bipush 20, 2) := by decide +kernel
theorem dX12_take_32 : decode cX12_take 32 = .ok (.iload_n 2, 1) := by decide +kernel
theorem dX12_take_33 : decode cX12_take 33 = .ok (.iadd, 1) := by decide +kernel
theorem dX12_take_34 : decode cX12_take 34 = .ok (.aload_n 0, 1) := by decide +kernel
theorem dX12_take_35 : decode cX12_take 35 = .ok (.iload_n 1, 1) := by decide +kernel
theorem dX12_take_36 : decode cX12_take 36 = .ok (.iconst 0, 1) := by decide +kernel
theorem dX12_take_37 : decode cX12_take 37 = .ok (.invokevirtual 328, 3) := by decide +kernel
theorem dX12_take_40 : decode cX12_take 40 = .ok (.invokevirtual 340, 3) := by decide +kernel
theorem dX12_take_43 : decode cX12_take 43 = .ok (.ifCond .ne 5, 3) := by decide +kernel
theorem dX12_take_46 : decode cX12_take 46 = .ok (.iconst (-1), 1) := by decide +kernel
theorem dX12_take_47 : decode cX12_take 47 = .ok (.ireturn, 1) := by decide +kernel
theorem dX12_take_48 : decode cX12_take 48 = .ok (.aload_n 0, 1) := by decide +kernel
theorem dX12_take_49 : decode cX12_take 49 = .ok (.iload_n 1, 1) := by decide +kernel
theorem dX12_take_50 : decode cX12_take 50 = .ok (.bipush 20, 2) := by decide +kernel
theorem dX12_take_52 : decode cX12_take 52 = .ok (.iload_n 2, 1) := by decide +kernel
theorem dX12_take_53 : decode cX12_take 53 = .ok (.iadd, 1) := by decide +kernel
theorem dX12_take_54 : decode cX12_take 54 = .ok (.invokevirtual 337, 3) := by decide +kernel
theorem dX12_take_57 : decode cX12_take 57 = .ok (.istore_n 3, 1) := by decide +kernel
theorem dX12_take_58 : decode cX12_take 58 = .ok (.aload_n 0, 1) := by decide +kernel
theorem dX12_take_59 : decode cX12_take 59 = .ok (.getfield 22, 3) := by decide +kernel
theorem dX12_take_62 : decode cX12_take 62 = .ok (.iload_n 1, 1) := by decide +kernel
theorem dX12_take_63 : decode cX12_take 63 = .ok (.iaload, 1) := by decide +kernel
theorem dX12_take_64 : decode cX12_take 64 = .ok (.iload_n 3, 1) := by decide +kernel
theorem dX12_take_65 : decode cX12_take 65 = .ok (.if_icmp .ge 5, 3) := by decide +kernel
theorem dX12_take_68 : decode cX12_take 68 = .ok (.iconst (-1), 1) := by decide +kernel
theorem dX12_take_69 : decode cX12_take 69 = .ok (.ireturn, 1) := by decide +kernel
theorem dX12_take_70 : decode cX12_take 70 = .ok (.aload_n 0, 1) := by decide +kernel
theorem dX12_take_71 : decode cX12_take 71 = .ok (.getfield 22, 3) := by decide +kernel
theorem dX12_take_74 : decode cX12_take 74 = .ok (.iload_n 1, 1) := by decide +kernel
theorem dX12_take_75 : decode cX12_take 75 = .ok (.aload_n 0, 1) := by decide +kernel
theorem dX12_take_76 : decode cX12_take 76 = .ok (.getfield 22, 3) := by decide +kernel
theorem dX12_take_79 : decode cX12_take 79 = .ok (.iload_n 1, 1) := by decide +kernel
theorem dX12_take_80 : decode cX12_take 80 = .ok (.iaload, 1) := by decide +kernel
theorem dX12_take_81 : decode cX12_take 81 = .ok (.iload_n 3, 1) := by decide +kernel
theorem dX12_take_82 : decode cX12_take 82 = .ok (.isub, 1) := by decide +kernel
theorem dX12_take_83 : decode cX12_take 83 = .ok (.iastore, 1) := by decide +kernel
theorem dX12_take_84 : decode cX12_take 84 = .ok (.aload_n 0, 1) := by decide +kernel
theorem dX12_take_85 : decode cX12_take 85 = .ok (.bipush 20, 2) := by decide +kernel
theorem dX12_take_87 : decode cX12_take 87 = .ok (.iload_n 2, 1) := by decide +kernel
theorem dX12_take_88 : decode cX12_take 88 = .ok (.iadd, 1) := by decide +kernel
theorem dX12_take_89 : decode cX12_take 89 = .ok (.iload_n 1, 1) := by decide +kernel
theorem dX12_take_90 : decode cX12_take 90 = .ok (.invokevirtual 187, 3) := by decide +kernel
theorem dX12_take_93 : decode cX12_take 93 = .ok (.iload_n 3, 1) := by decide +kernel
theorem dX12_take_94 : decode cX12_take 94 = .ok (.ireturn, 1) := by decide +kernel
theorem dX12_kindOf_0 : decode cX12_kindOf 0 = .ok (.aload_n 0, 1) := by decide +kernel
theorem dX12_kindOf_1 : decode cX12_kindOf 1 = .ok (.iload_n 1, 1) := by decide +kernel
theorem dX12_kindOf_2 : decode cX12_kindOf 2 = .ok (.bipush 31, 2) := by decide +kernel
theorem dX12_kindOf_4 : decode cX12_kindOf 4 = .ok (.iload_n 1, 1) := by decide +kernel
theorem dX12_kindOf_5 : decode cX12_kindOf 5 = .ok (.iadd, 1) := by decide +kernel
theorem dX12_kindOf_6 : decode cX12_kindOf 6 = .ok (.invokevirtual 346, 3) := by decide +kernel
theorem dX12_kindOf_9 : decode cX12_kindOf 9 = .ok (.ifCond .eq 5, 3) := by decide +kernel
theorem dX12_kindOf_12 : decode cX12_kindOf 12 = .ok (.iconst (-1), 1) := by decide +kernel
theorem dX12_kindOf_13 : decode cX12_kindOf 13 = .ok (.ireturn, 1) := by decide +kernel
theorem dX12_kindOf_14 : decode cX12_kindOf 14 = .ok (.iconst 0, 1) := by decide +kernel
theorem dX12_kindOf_15 : decode cX12_kindOf 15 = .ok (.istore_n 2, 1) := by decide +kernel
theorem dX12_kindOf_16 : decode cX12_kindOf 16 = .ok (.aload_n 0, 1) := by decide +kernel
theorem dX12_kindOf_17 : decode cX12_kindOf 17 = .ok (.iload_n 1, 1) := by decide +kernel
theorem dX12_kindOf_18 : decode cX12_kindOf 18 = .ok (.bipush 20, 2) := by decide +kernel
theorem dX12_kindOf_20 : decode cX12_kindOf 20 = .ok (.iload_n 2, 1) := by decide +kernel
theorem dX12_kindOf_21 : decode cX12_kindOf 21 = .ok (.iadd, 1) := by decide +kernel
theorem dX12_kindOf_22 : decode cX12_kindOf 22 = .ok (.invokevirtual 346, 3) := by decide +kernel
theorem dX12_kindOf_25 : decode cX12_kindOf 25 = .ok (.ifCond .ne 10, 3) := by decide +kernel
theorem dX12_kindOf_28 : decode cX12_kindOf 28 = .ok (.iload_n 2, 1) := by decide +kernel
theorem dX12_kindOf_29 : decode cX12_kindOf 29 = .ok (.iconst 1, 1) := by decide +kernel
theorem dX12_kindOf_30 : decode cX12_kindOf 30 = .ok (.iadd, 1) := by decide +kernel
theorem dX12_kindOf_31 : decode cX12_kindOf 31 = .ok (.istore_n 2, 1) := by decide +kernel
theorem dX12_kindOf_32 : decode cX12_kindOf 32 = .ok (.goto (-16), 3) := by decide +kernel
theorem dX12_kindOf_35 : decode cX12_kindOf 35 = .ok (.iload_n 2, 1) := by decide +kernel
theorem dX12_kindOf_36 : decode cX12_kindOf 36 = .ok (.ireturn, 1) := by decide +kernel
theorem dX12_notes_0 : decode cX12_notes 0 = .ok (.iconst 0, 1) := by decide +kernel
theorem dX12_notes_1 : decode cX12_notes 1 = .ok (.istore_n 2, 1) := by decide +kernel
theorem dX12_notes_2 : decode cX12_notes 2 = .ok (.iload_n 2, 1) := by decide +kernel
theorem dX12_notes_3 : decode cX12_notes 3 = .ok (.aload_n 0, 1) := by decide +kernel
theorem dX12_notes_4 : decode cX12_notes 4 = .ok (.getfield 154, 3) := by decide +kernel
theorem dX12_notes_7 : decode cX12_notes 7 = .ok (.if_icmp .ge 25, 3) := by decide +kernel
theorem dX12_notes_10 : decode cX12_notes 10 = .ok (.aload_n 0, 1) := by decide +kernel
theorem dX12_notes_11 : decode cX12_notes 11 = .ok (.getfield 110, 3) := by decide +kernel
theorem dX12_notes_14 : decode cX12_notes 14 = .ok (.bipush 20, 2) := by decide +kernel
theorem dX12_notes_16 : decode cX12_notes 16 = .ok (.iload_n 1, 1) := by decide +kernel
theorem dX12_notes_17 : decode cX12_notes 17 = .ok (.imul, 1) := by decide +kernel
theorem dX12_notes_18 : decode cX12_notes 18 = .ok (.iload_n 2, 1) := by decide +kernel
theorem dX12_notes_19 : decode cX12_notes 19 = .ok (.iadd, 1) := by decide +kernel
theorem dX12_notes_20 : decode cX12_notes 20 = .ok (.aload_n 0, 1) := by decide +kernel
theorem dX12_notes_21 : decode cX12_notes 21 = .ok (.iload_n 2, 1) := by decide +kernel
theorem dX12_notes_22 : decode cX12_notes 22 = .ok (.invokevirtual 349, 3) := by decide +kernel
theorem dX12_notes_25 : decode cX12_notes 25 = .ok (.iastore, 1) := by decide +kernel
theorem dX12_notes_26 : decode cX12_notes 26 = .ok (.iinc 2 1, 3) := by decide +kernel
theorem dX12_notes_29 : decode cX12_notes 29 = .ok (.goto (-27), 3) := by decide +kernel
theorem dX12_notes_32 : decode cX12_notes 32 = .ok (.return_, 1) := by decide +kernel
theorem dX12_areNames_0 : decode cX12_areNames 0 = .ok (.iconst 0, 1) := by decide +kernel
theorem dX12_areNames_1 : decode cX12_areNames 1 = .ok (.istore_n 3, 1) := by decide +kernel
theorem dX12_areNames_2 : decode cX12_areNames 2 = .ok (.iload_n 3, 1) := by decide +kernel
theorem dX12_areNames_3 : decode cX12_areNames 3 = .ok (.aload_n 0, 1) := by decide +kernel
theorem dX12_areNames_4 : decode cX12_areNames 4 = .ok (.getfield 154, 3) := by decide +kernel
theorem dX12_areNames_7 : decode cX12_areNames 7 = .ok (.if_icmp .ge 36, 3) := by decide +kernel
theorem dX12_areNames_10 : decode cX12_areNames 10 = .ok (.aload_n 0, 1) := by decide +kernel
theorem dX12_areNames_11 : decode cX12_areNames 11 = .ok (.getfield 110, 3) := by decide +kernel
theorem dX12_areNames_14 : decode cX12_areNames 14 = .ok (.bipush 20, 2) := by decide +kernel
theorem dX12_areNames_16 : decode cX12_areNames 16 = .ok (.iload_n 1, 1) := by decide +kernel
theorem dX12_areNames_17 : decode cX12_areNames 17 = .ok (.imul, 1) := by decide +kernel
theorem dX12_areNames_18 : decode cX12_areNames 18 = .ok (.iload_n 3, 1) := by decide +kernel
theorem dX12_areNames_19 : decode cX12_areNames 19 = .ok (.iadd, 1) := by decide +kernel
theorem dX12_areNames_20 : decode cX12_areNames 20 = .ok (.iaload, 1) := by decide +kernel
theorem dX12_areNames_21 : decode cX12_areNames 21 = .ok (.aload_n 0, 1) := by decide +kernel
theorem dX12_areNames_22 : decode cX12_areNames 22 = .ok (.getfield 110, 3) := by decide +kernel
theorem dX12_areNames_25 : decode cX12_areNames 25 = .ok (.bipush 20, 2) := by decide +kernel
theorem dX12_areNames_27 : decode cX12_areNames 27 = .ok (.iload_n 2, 1) := by decide +kernel
theorem dX12_areNames_28 : decode cX12_areNames 28 = .ok (.imul, 1) := by decide +kernel
theorem dX12_areNames_29 : decode cX12_areNames 29 = .ok (.iload_n 3, 1) := by decide +kernel
theorem dX12_areNames_30 : decode cX12_areNames 30 = .ok (.iadd, 1) := by decide +kernel
theorem dX12_areNames_31 : decode cX12_areNames 31 = .ok (.iaload, 1) := by decide +kernel
theorem dX12_areNames_32 : decode cX12_areNames 32 = .ok (.if_icmp .eq 5, 3) := by decide +kernel
theorem dX12_areNames_35 : decode cX12_areNames 35 = .ok (.iconst 0, 1) := by decide +kernel
theorem dX12_areNames_36 : decode cX12_areNames 36 = .ok (.ireturn, 1) := by decide +kernel
theorem dX12_areNames_37 : decode cX12_areNames 37 = .ok (.iinc 3 1, 3) := by decide +kernel
theorem dX12_areNames_40 : decode cX12_areNames 40 = .ok (.goto (-38), 3) := by decide +kernel
theorem dX12_areNames_43 : decode cX12_areNames 43 = .ok (.iconst 1, 1) := by decide +kernel
theorem dX12_areNames_44 : decode cX12_areNames 44 = .ok (.ireturn, 1) := by decide +kernel
theorem dX12_rounds_0 : decode cX12_rounds 0 = .ok (.iconst 0, 1) := by decide +kernel
theorem dX12_rounds_1 : decode cX12_rounds 1 = .ok (.istore_n 1, 1) := by decide +kernel
theorem dX12_rounds_2 : decode cX12_rounds 2 = .ok (.iconst 0, 1) := by decide +kernel
theorem dX12_rounds_3 : decode cX12_rounds 3 = .ok (.istore_n 2, 1) := by decide +kernel
theorem dX12_rounds_4 : decode cX12_rounds 4 = .ok (.iload_n 2, 1) := by decide +kernel
theorem dX12_rounds_5 : decode cX12_rounds 5 = .ok (.aload_n 0, 1) := by decide +kernel
theorem dX12_rounds_6 : decode cX12_rounds 6 = .ok (.getfield 154, 3) := by decide +kernel
theorem dX12_rounds_9 : decode cX12_rounds 9 = .ok (.if_icmp .ge 108, 3) := by decide +kernel
theorem dX12_rounds_12 : decode cX12_rounds 12 = .ok (.iconst (-1), 1) := by decide +kernel
theorem dX12_rounds_13 : decode cX12_rounds 13 = .ok (.istore_n 3, 1) := by decide +kernel
theorem dX12_rounds_14 : decode cX12_rounds 14 = .ok (.iconst 0, 1) := by decide +kernel
theorem dX12_rounds_15 : decode cX12_rounds 15 = .ok (.istore 4, 2) := by decide +kernel
theorem dX12_rounds_17 : decode cX12_rounds 17 = .ok (.aload_n 0, 1) := by decide +kernel
theorem dX12_rounds_18 : decode cX12_rounds 18 = .ok (.iload_n 2, 1) := by decide +kernel
theorem dX12_rounds_19 : decode cX12_rounds 19 = .ok (.iconst 0, 1) := by decide +kernel
theorem dX12_rounds_20 : decode cX12_rounds 20 = .ok (.invokevirtual 328, 3) := by decide +kernel
theorem dX12_rounds_23 : decode cX12_rounds 23 = .ok (.istore 5, 2) := by decide +kernel
theorem dX12_rounds_25 : decode cX12_rounds 25 = .ok (.iconst 0, 1) := by decide +kernel
theorem dX12_rounds_26 : decode cX12_rounds 26 = .ok (.istore 6, 2) := by decide +kernel
theorem dX12_rounds_28 : decode cX12_rounds 28 = .ok (.iload 6, 2) := by decide +kernel
theorem dX12_rounds_30 : decode cX12_rounds 30 = .ok (.aload_n 0, 1) := by decide +kernel
theorem dX12_rounds_31 : decode cX12_rounds 31 = .ok (.getfield 171, 3) := by decide +kernel
theorem dX12_rounds_34 : decode cX12_rounds 34 = .ok (.if_icmp .ge 56, 3) := by decide +kernel
theorem dX12_rounds_37 : decode cX12_rounds 37 = .ok (.aload_n 0, 1) := by decide +kernel
theorem dX12_rounds_38 : decode cX12_rounds 38 = .ok (.iload_n 2, 1) := by decide +kernel
theorem dX12_rounds_39 : decode cX12_rounds 39 = .ok (.bipush 20, 2) := by decide +kernel
theorem dX12_rounds_41 : decode cX12_rounds 41 = .ok (.iload 6, 2) := by decide +kernel
theorem dX12_rounds_43 : decode cX12_rounds 43 = .ok (.iadd, 1) := by decide +kernel
theorem dX12_rounds_44 : decode cX12_rounds 44 = .ok (.iload 5, 2) := by decide +kernel
theorem dX12_rounds_46 : decode cX12_rounds 46 = .ok (.invokevirtual 340, 3) := by decide +kernel
theorem dX12_rounds_49 : decode cX12_rounds 49 = .ok (.ifCond .ne 6, 3) := by decide +kernel
theorem dX12_rounds_52 : decode cX12_rounds 52 = .ok (.goto 32, 3) := by decide +kernel
theorem dX12_rounds_55 : decode cX12_rounds 55 = .ok (.aload_n 0, 1) := by decide +kernel
theorem dX12_rounds_56 : decode cX12_rounds 56 = .ok (.iload_n 2, 1) := by decide +kernel
theorem dX12_rounds_57 : decode cX12_rounds 57 = .ok (.bipush 20, 2) := by decide +kernel
theorem dX12_rounds_59 : decode cX12_rounds 59 = .ok (.iload 6, 2) := by decide +kernel
theorem dX12_rounds_61 : decode cX12_rounds 61 = .ok (.iadd, 1) := by decide +kernel
theorem dX12_rounds_62 : decode cX12_rounds 62 = .ok (.invokevirtual 343, 3) := by decide +kernel
theorem dX12_rounds_65 : decode cX12_rounds 65 = .ok (.istore 7, 2) := by decide +kernel
theorem dX12_rounds_67 : decode cX12_rounds 67 = .ok (.iload 7, 2) := by decide +kernel
theorem dX12_rounds_69 : decode cX12_rounds 69 = .ok (.iload 4, 2) := by decide +kernel
theorem dX12_rounds_71 : decode cX12_rounds 71 = .ok (.if_icmp .gt 6, 3) := by decide +kernel
theorem dX12_rounds_74 : decode cX12_rounds 74 = .ok (.goto 10, 3) := by decide +kernel
theorem dX12_rounds_77 : decode cX12_rounds 77 = .ok (.iload 6, 2) := by decide +kernel
theorem dX12_rounds_79 : decode cX12_rounds 79 = .ok (.istore_n 3, 1) := by decide +kernel
theorem dX12_rounds_80 : decode cX12_rounds 80 = .ok (.iload 7, 2) := by decide +kernel
theorem dX12_rounds_82 : decode cX12_rounds 82 = .ok (.istore 4, 2) := by decide +kernel
theorem dX12_rounds_84 : decode cX12_rounds 84 = .ok (.iinc 6 1, 3) := by decide +kernel
theorem dX12_rounds_87 : decode cX12_rounds 87 = .ok (.goto (-59), 3) := by decide +kernel
theorem dX12_rounds_90 : decode cX12_rounds 90 = .ok (.iload_n 3, 1) := by decide +kernel
theorem dX12_rounds_91 : decode cX12_rounds 91 = .ok (.iconst (-1), 1) := by decide +kernel
theorem dX12_rounds_92 : decode cX12_rounds 92 = .ok (.if_icmp .ne 6, 3) := by decide +kernel
theorem dX12_rounds_95 : decode cX12_rounds 95 = .ok (.goto 16, 3) := by decide +kernel
theorem dX12_rounds_98 : decode cX12_rounds 98 = .ok (.aload_n 0, 1) := by decide +kernel
theorem dX12_rounds_99 : decode cX12_rounds 99 = .ok (.bipush 20, 2) := by decide +kernel
theorem dX12_rounds_101 : decode cX12_rounds 101 = .ok (.iload_n 3, 1) := by decide +kernel
theorem dX12_rounds_102 : decode cX12_rounds 102 = .ok (.iadd, 1) := by decide +kernel
theorem dX12_rounds_103 : decode cX12_rounds 103 = .ok (.iload_n 2, 1) := by decide +kernel
theorem dX12_rounds_104 : decode cX12_rounds 104 = .ok (.invokevirtual 187, 3) := by decide +kernel
theorem dX12_rounds_107 : decode cX12_rounds 107 = .ok (.iload_n 1, 1) := by decide +kernel
theorem dX12_rounds_108 : decode cX12_rounds 108 = .ok (.iconst 1, 1) := by decide +kernel
theorem dX12_rounds_109 : decode cX12_rounds 109 = .ok (.iadd, 1) := by decide +kernel
theorem dX12_rounds_110 : decode cX12_rounds 110 = .ok (.istore_n 1, 1) := by decide +kernel
theorem dX12_rounds_111 : decode cX12_rounds 111 = .ok (.iinc 2 1, 3) := by decide +kernel
theorem dX12_rounds_114 : decode cX12_rounds 114 = .ok (.goto (-110), 3) := by decide +kernel
theorem dX12_rounds_117 : decode cX12_rounds 117 = .ok (.iload_n 1, 1) := by decide +kernel
theorem dX12_rounds_118 : decode cX12_rounds 118 = .ok (.ireturn, 1) := by decide +kernel
theorem dX12_rests_0 : decode cX12_rests 0 = .ok (.aload_n 0, 1) := by decide +kernel
theorem dX12_rests_1 : decode cX12_rests 1 = .ok (.iconst (-1), 1) := by decide +kernel
theorem dX12_rests_2 : decode cX12_rests 2 = .ok (.putfield 352, 3) := by decide +kernel
theorem dX12_rests_5 : decode cX12_rests 5 = .ok (.aload_n 0, 1) := by decide +kernel
theorem dX12_rests_6 : decode cX12_rests 6 = .ok (.iconst 0, 1) := by decide +kernel
theorem dX12_rests_7 : decode cX12_rests 7 = .ok (.putfield 355, 3) := by decide +kernel
theorem dX12_rests_10 : decode cX12_rests 10 = .ok (.aload_n 0, 1) := by decide +kernel
theorem dX12_rests_11 : decode cX12_rests 11 = .ok (.iconst 0, 1) := by decide +kernel
theorem dX12_rests_12 : decode cX12_rests 12 = .ok (.putfield 358, 3) := by decide +kernel
theorem dX12_rests_15 : decode cX12_rests 15 = .ok (.iconst 0, 1) := by decide +kernel
theorem dX12_rests_16 : decode cX12_rests 16 = .ok (.istore_n 1, 1) := by decide +kernel
theorem dX12_rests_17 : decode cX12_rests 17 = .ok (.iload_n 1, 1) := by decide +kernel
theorem dX12_rests_18 : decode cX12_rests 18 = .ok (.aload_n 0, 1) := by decide +kernel
theorem dX12_rests_19 : decode cX12_rests 19 = .ok (.getfield 154, 3) := by decide +kernel
theorem dX12_rests_22 : decode cX12_rests 22 = .ok (.if_icmp .ge 18, 3) := by decide +kernel
theorem dX12_rests_25 : decode cX12_rests 25 = .ok (.aload_n 0, 1) := by decide +kernel
theorem dX12_rests_26 : decode cX12_rests 26 = .ok (.iload_n 1, 1) := by decide +kernel
theorem dX12_rests_27 : decode cX12_rests 27 = .ok (.bipush 31, 2) := by decide +kernel
theorem dX12_rests_29 : decode cX12_rests 29 = .ok (.iload_n 1, 1) := by decide +kernel
theorem dX12_rests_30 : decode cX12_rests 30 = .ok (.iadd, 1) := by decide +kernel
theorem dX12_rests_31 : decode cX12_rests 31 = .ok (.invokevirtual 187, 3) := by decide +kernel
theorem dX12_rests_34 : decode cX12_rests 34 = .ok (.iinc 1 1, 3) := by decide +kernel
theorem dX12_rests_37 : decode cX12_rests 37 = .ok (.goto (-20), 3) := by decide +kernel
theorem dX12_rests_40 : decode cX12_rests 40 = .ok (.aload_n 0, 1) := by decide +kernel
theorem dX12_rests_41 : decode cX12_rests 41 = .ok (.iconst 0, 1) := by decide +kernel
theorem dX12_rests_42 : decode cX12_rests 42 = .ok (.invokevirtual 361, 3) := by decide +kernel
theorem dX12_rests_45 : decode cX12_rests 45 = .ok (.iconst 0, 1) := by decide +kernel
theorem dX12_rests_46 : decode cX12_rests 46 = .ok (.istore_n 1, 1) := by decide +kernel
theorem dX12_rests_47 : decode cX12_rests 47 = .ok (.iload_n 1, 1) := by decide +kernel
theorem dX12_rests_48 : decode cX12_rests 48 = .ok (.bipush 40, 2) := by decide +kernel
theorem dX12_rests_50 : decode cX12_rests 50 = .ok (.if_icmp .ge 98, 3) := by decide +kernel
theorem dX12_rests_53 : decode cX12_rests 53 = .ok (.aload_n 0, 1) := by decide +kernel
theorem dX12_rests_54 : decode cX12_rests 54 = .ok (.getfield 352, 3) := by decide +kernel
theorem dX12_rests_57 : decode cX12_rests 57 = .ok (.iconst (-1), 1) := by decide +kernel
theorem dX12_rests_58 : decode cX12_rests 58 = .ok (.if_icmp .ne 90, 3) := by decide +kernel
theorem dX12_rests_61 : decode cX12_rests 61 = .ok (.aload_n 0, 1) := by decide +kernel
theorem dX12_rests_62 : decode cX12_rests 62 = .ok (.getfield 355, 3) := by decide +kernel
theorem dX12_rests_65 : decode cX12_rests 65 = .ok (.ifCond .ne 83, 3) := by decide +kernel
theorem dX12_rests_68 : decode cX12_rests 68 = .ok (.aload_n 0, 1) := by decide +kernel
theorem dX12_rests_69 : decode cX12_rests 69 = .ok (.invokevirtual 364, 3) := by decide +kernel
theorem dX12_rests_72 : decode cX12_rests 72 = .ok (.istore_n 2, 1) := by decide +kernel
theorem dX12_rests_73 : decode cX12_rests 73 = .ok (.aload_n 0, 1) := by decide +kernel
theorem dX12_rests_74 : decode cX12_rests 74 = .ok (.aload_n 0, 1) := by decide +kernel
theorem dX12_rests_75 : decode cX12_rests 75 = .ok (.getfield 358, 3) := by decide +kernel
theorem dX12_rests_78 : decode cX12_rests 78 = .ok (.iload_n 2, 1) := by decide +kernel
theorem dX12_rests_79 : decode cX12_rests 79 = .ok (.iadd, 1) := by decide +kernel
theorem dX12_rests_80 : decode cX12_rests 80 = .ok (.putfield 358, 3) := by decide +kernel
theorem dX12_rests_83 : decode cX12_rests 83 = .ok (.iload_n 2, 1) := by decide +kernel
theorem dX12_rests_84 : decode cX12_rests 84 = .ok (.ifCond .ne 8, 3) := by decide +kernel
theorem dX12_rests_87 : decode cX12_rests 87 = .ok (.aload_n 0, 1) := by decide +kernel
theorem dX12_rests_88 : decode cX12_rests 88 = .ok (.iload_n 1, 1) := by decide +kernel
theorem dX12_rests_89 : decode cX12_rests 89 = .ok (.putfield 352, 3) := by decide +kernel
theorem dX12_rests_92 : decode cX12_rests 92 = .ok (.aload_n 0, 1) := by decide +kernel
theorem dX12_rests_93 : decode cX12_rests 93 = .ok (.iload_n 1, 1) := by decide +kernel
theorem dX12_rests_94 : decode cX12_rests 94 = .ok (.iconst 1, 1) := by decide +kernel
theorem dX12_rests_95 : decode cX12_rests 95 = .ok (.iadd, 1) := by decide +kernel
theorem dX12_rests_96 : decode cX12_rests 96 = .ok (.invokevirtual 361, 3) := by decide +kernel
theorem dX12_rests_99 : decode cX12_rests 99 = .ok (.iload_n 1, 1) := by decide +kernel
theorem dX12_rests_100 : decode cX12_rests 100 = .ok (.istore_n 3, 1) := by decide +kernel
theorem dX12_rests_101 : decode cX12_rests 101 = .ok (.iload_n 3, 1) := by decide +kernel
theorem dX12_rests_102 : decode cX12_rests 102 = .ok (.ifCond .lt 40, 3) := by decide +kernel
theorem dX12_rests_105 : decode cX12_rests 105 = .ok (.iload_n 2, 1) := by decide +kernel
theorem dX12_rests_106 : decode cX12_rests 106 = .ok (.ifCond .le 36, 3) := by decide +kernel
theorem dX12_rests_109 : decode cX12_rests 109 = .ok (.aload_n 0, 1) := by decide +kernel
theorem dX12_rests_110 : decode cX12_rests 110 = .ok (.getfield 355, 3) := by decide +kernel
theorem dX12_rests_113 : decode cX12_rests 113 = .ok (.ifCond .ne 29, 3) := by decide +kernel
theorem dX12_rests_116 : decode cX12_rests 116 = .ok (.aload_n 0, 1) := by decide +kernel
theorem dX12_rests_117 : decode cX12_rests 117 = .ok (.iload_n 3, 1) := by decide +kernel
theorem dX12_rests_118 : decode cX12_rests 118 = .ok (.iload_n 1, 1) := by decide +kernel
theorem dX12_rests_119 : decode cX12_rests 119 = .ok (.iconst 1, 1) := by decide +kernel
theorem dX12_rests_120 : decode cX12_rests 120 = .ok (.iadd, 1) := by decide +kernel
theorem dX12_rests_121 : decode cX12_rests 121 = .ok (.invokevirtual 367, 3) := by decide +kernel
theorem dX12_rests_124 : decode cX12_rests 124 = .ok (.ifCond .eq 12, 3) := by decide +kernel
theorem dX12_rests_127 : decode cX12_rests 127 = .ok (.aload_n 0, 1) := by decide +kernel
theorem dX12_rests_128 : decode cX12_rests 128 = .ok (.iload_n 1, 1) := by decide +kernel
theorem dX12_rests_129 : decode cX12_rests 129 = .ok (.iconst 1, 1) := by decide +kernel
theorem dX12_rests_130 : decode cX12_rests 130 = .ok (.iadd, 1) := by decide +kernel
theorem dX12_rests_131 : decode cX12_rests 131 = .ok (.iload_n 3, 1) := by decide +kernel
theorem dX12_rests_132 : decode cX12_rests 132 = .ok (.isub, 1) := by decide +kernel
theorem dX12_rests_133 : decode cX12_rests 133 = .ok (.putfield 355, 3) := by decide +kernel
theorem dX12_rests_136 : decode cX12_rests 136 = .ok (.iinc 3 (-1), 3) := by decide +kernel
theorem dX12_rests_139 : decode cX12_rests 139 = .ok (.goto (-38), 3) := by decide +kernel
theorem dX12_rests_142 : decode cX12_rests 142 = .ok (.iinc 1 1, 3) := by decide +kernel
theorem dX12_rests_145 : decode cX12_rests 145 = .ok (.goto (-98), 3) := by decide +kernel
theorem dX12_rests_148 : decode cX12_rests 148 = .ok (.iconst 0, 1) := by decide +kernel
theorem dX12_rests_149 : decode cX12_rests 149 = .ok (.istore_n 1, 1) := by decide +kernel
theorem dX12_rests_150 : decode cX12_rests 150 = .ok (.iload_n 1, 1) := by decide +kernel
theorem dX12_rests_151 : decode cX12_rests 151 = .ok (.aload_n 0, 1) := by decide +kernel
theorem dX12_rests_152 : decode cX12_rests 152 = .ok (.getfield 154, 3) := by decide +kernel
theorem dX12_rests_155 : decode cX12_rests 155 = .ok (.if_icmp .ge 18, 3) := by decide +kernel
theorem dX12_rests_158 : decode cX12_rests 158 = .ok (.aload_n 0, 1) := by decide +kernel
theorem dX12_rests_159 : decode cX12_rests 159 = .ok (.bipush 31, 2) := by decide +kernel
theorem dX12_rests_161 : decode cX12_rests 161 = .ok (.iload_n 1, 1) := by decide +kernel
theorem dX12_rests_162 : decode cX12_rests 162 = .ok (.iadd, 1) := by decide +kernel
theorem dX12_rests_163 : decode cX12_rests 163 = .ok (.iload_n 1, 1) := by decide +kernel
theorem dX12_rests_164 : decode cX12_rests 164 = .ok (.invokevirtual 187, 3) := by decide +kernel
theorem dX12_rests_167 : decode cX12_rests 167 = .ok (.iinc 1 1, 3) := by decide +kernel
theorem dX12_rests_170 : decode cX12_rests 170 = .ok (.goto (-20), 3) := by decide +kernel
theorem dX12_rests_173 : decode cX12_rests 173 = .ok (.return_, 1) := by decide +kernel
theorem dX12_rest_0 : decode cX12_rest 0 = .ok (.aload_n 0, 1) := by decide +kernel
theorem dX12_rest_1 : decode cX12_rest 1 = .ok (.iconst 0, 1) := by decide +kernel
theorem dX12_rest_2 : decode cX12_rest 2 = .ok (.putfield 146, 3) := by decide +kernel
theorem dX12_rest_5 : decode cX12_rest 5 = .ok (.aload_n 0, 1) := by decide +kernel
theorem dX12_rest_6 : decode cX12_rest 6 = .ok (.iload_n 1, 1) := by decide +kernel
theorem dX12_rest_7 : decode cX12_rest 7 = .ok (.iconst 0, 1) := by decide +kernel
theorem dX12_rest_8 : decode cX12_rest 8 = .ok (.iconst 2, 1) := by decide +kernel
theorem dX12_rest_9 : decode cX12_rest 9 = .ok (.invokevirtual 160, 3) := by decide +kernel
theorem dX12_rest_12 : decode cX12_rest 12 = .ok (.ifCond .ne 5, 3) := by decide +kernel
theorem dX12_rest_15 : decode cX12_rest 15 = .ok (.iconst (-1), 1) := by decide +kernel
theorem dX12_rest_16 : decode cX12_rest 16 = .ok (.ireturn, 1) := by decide +kernel
theorem dX12_rest_17 : decode cX12_rest 17 = .ok (.aload_n 0, 1) := by decide +kernel
theorem dX12_rest_18 : decode cX12_rest 18 = .ok (.invokevirtual 370, 3) := by decide +kernel
theorem dX12_rest_21 : decode cX12_rest 21 = .ok (.iload_n 1, 1) := by decide +kernel
theorem dX12_rest_22 : decode cX12_rest 22 = .ok (.ifCond .ne 10, 3) := by decide +kernel
theorem dX12_rest_25 : decode cX12_rest 25 = .ok (.aload_n 0, 1) := by decide +kernel
theorem dX12_rest_26 : decode cX12_rest 26 = .ok (.getfield 352, 3) := by decide +kernel
theorem dX12_rest_29 : decode cX12_rest 29 = .ok (.goto 19, 3) := by decide +kernel
theorem dX12_rest_32 : decode cX12_rest 32 = .ok (.iload_n 1, 1) := by decide +kernel
theorem dX12_rest_33 : decode cX12_rest 33 = .ok (.iconst 1, 1) := by decide +kernel
theorem dX12_rest_34 : decode cX12_rest 34 = .ok (.if_icmp .ne 10, 3) := by decide +kernel
theorem dX12_rest_37 : decode cX12_rest 37 = .ok (.aload_n 0, 1) := by decide +kernel
theorem dX12_rest_38 : decode cX12_rest 38 = .ok (.getfield 355, 3) := by decide +kernel
theorem dX12_rest_41 : decode cX12_rest 41 = .ok (.goto 7, 3) := by decide +kernel
theorem dX12_rest_44 : decode cX12_rest 44 = .ok (.aload_n 0, 1) := by decide +kernel
theorem dX12_rest_45 : decode cX12_rest 45 = .ok (.getfield 358, 3) := by decide +kernel
theorem dX12_rest_48 : decode cX12_rest 48 = .ok (.ireturn, 1) := by decide +kernel
theorem dX12_isBetter_0 : decode cX12_isBetter 0 = .ok (.aload_n 0, 1) := by decide +kernel
theorem dX12_isBetter_1 : decode cX12_isBetter 1 = .ok (.getfield 98, 3) := by decide +kernel
theorem dX12_isBetter_4 : decode cX12_isBetter 4 = .ok (.iload_n 1, 1) := by decide +kernel
theorem dX12_isBetter_5 : decode cX12_isBetter 5 = .ok (.iaload, 1) := by decide +kernel
theorem dX12_isBetter_6 : decode cX12_isBetter 6 = .ok (.aload_n 0, 1) := by decide +kernel
theorem dX12_isBetter_7 : decode cX12_isBetter 7 = .ok (.getfield 98, 3) := by decide +kernel
theorem dX12_isBetter_10 : decode cX12_isBetter 10 = .ok (.iload_n 2, 1) := by decide +kernel
theorem dX12_isBetter_11 : decode cX12_isBetter 11 = .ok (.iaload, 1) := by decide +kernel
theorem dX12_isBetter_12 : decode cX12_isBetter 12 = .ok (.if_icmp .gt 23, 3) := by decide +kernel
theorem dX12_isBetter_15 : decode cX12_isBetter 15 = .ok (.aload_n 0, 1) := by decide +kernel
theorem dX12_isBetter_16 : decode cX12_isBetter 16 = .ok (.getfield 98, 3) := by decide +kernel
theorem dX12_isBetter_19 : decode cX12_isBetter 19 = .ok (.iload_n 1, 1) := by decide +kernel
theorem dX12_isBetter_20 : decode cX12_isBetter 20 = .ok (.iaload, 1) := by decide +kernel
theorem dX12_isBetter_21 : decode cX12_isBetter 21 = .ok (.aload_n 0, 1) := by decide +kernel
theorem dX12_isBetter_22 : decode cX12_isBetter 22 = .ok (.getfield 98, 3) := by decide +kernel
theorem dX12_isBetter_25 : decode cX12_isBetter 25 = .ok (.iload_n 2, 1) := by decide +kernel
theorem dX12_isBetter_26 : decode cX12_isBetter 26 = .ok (.iaload, 1) := by decide +kernel
theorem dX12_isBetter_27 : decode cX12_isBetter 27 = .ok (.if_icmp .ne 12, 3) := by decide +kernel
theorem dX12_isBetter_30 : decode cX12_isBetter 30 = .ok (.iload_n 1, 1) := by decide +kernel
theorem dX12_isBetter_31 : decode cX12_isBetter 31 = .ok (.iload_n 2, 1) := by decide +kernel
theorem dX12_isBetter_32 : decode cX12_isBetter 32 = .ok (.if_icmp .ge 7, 3) := by decide +kernel
theorem dX12_isBetter_35 : decode cX12_isBetter 35 = .ok (.iconst 1, 1) := by decide +kernel
theorem dX12_isBetter_36 : decode cX12_isBetter 36 = .ok (.goto 4, 3) := by decide +kernel
theorem dX12_isBetter_39 : decode cX12_isBetter 39 = .ok (.iconst 0, 1) := by decide +kernel
theorem dX12_isBetter_40 : decode cX12_isBetter 40 = .ok (.ireturn, 1) := by decide +kernel
theorem dX12_suitorAsks_0 : decode cX12_suitorAsks 0 = .ok (.iconst 0, 1) := by decide +kernel
theorem dX12_suitorAsks_1 : decode cX12_suitorAsks 1 = .ok (.istore_n 2, 1) := by decide +kernel
theorem dX12_suitorAsks_2 : decode cX12_suitorAsks 2 = .ok (.iload_n 2, 1) := by decide +kernel
theorem dX12_suitorAsks_3 : decode cX12_suitorAsks 3 = .ok (.aload_n 0, 1) := by decide +kernel
theorem dX12_suitorAsks_4 : decode cX12_suitorAsks 4 = .ok (.getfield 154, 3) := by decide +kernel
theorem dX12_suitorAsks_7 : decode cX12_suitorAsks 7 = .ok (.if_icmp .ge 80, 3) := by decide +kernel
theorem dX12_suitorAsks_10 : decode cX12_suitorAsks 10 = .ok (.aload_n 0, 1) := by decide +kernel
theorem dX12_suitorAsks_11 : decode cX12_suitorAsks 11 = .ok (.getfield 16, 3) := by decide +kernel
theorem dX12_suitorAsks_14 : decode cX12_suitorAsks 14 = .ok (.iload_n 2, 1) := by decide +kernel
theorem dX12_suitorAsks_15 : decode cX12_suitorAsks 15 = .ok (.iaload, 1) := by decide +kernel
theorem dX12_suitorAsks_16 : decode cX12_suitorAsks 16 = .ok (.iconst 1, 1) := by decide +kernel
theorem dX12_suitorAsks_17 : decode cX12_suitorAsks 17 = .ok (.if_icmp .eq 6, 3) := by decide +kernel
theorem dX12_suitorAsks_20 : decode cX12_suitorAsks 20 = .ok (.goto 61, 3) := by decide +kernel
theorem dX12_suitorAsks_23 : decode cX12_suitorAsks 23 = .ok (.iconst 0, 1) := by decide +kernel
theorem dX12_suitorAsks_24 : decode cX12_suitorAsks 24 = .ok (.istore_n 3, 1) := by decide +kernel
theorem dX12_suitorAsks_25 : decode cX12_suitorAsks 25 = .ok (.iconst 0, 1) := by decide +kernel
theorem dX12_suitorAsks_26 : decode cX12_suitorAsks 26 = .ok (.istore 4, 2) := by decide +kernel
theorem dX12_suitorAsks_28 : decode cX12_suitorAsks 28 = .ok (.iload 4, 2) := by decide +kernel
theorem dX12_suitorAsks_30 : decode cX12_suitorAsks 30 = .ok (.aload_n 0, 1) := by decide +kernel
theorem dX12_suitorAsks_31 : decode cX12_suitorAsks 31 = .ok (.getfield 154, 3) := by decide +kernel
theorem dX12_suitorAsks_34 : decode cX12_suitorAsks 34 = .ok (.if_icmp .ge 40, 3) := by decide +kernel
theorem dX12_suitorAsks_37 : decode cX12_suitorAsks 37 = .ok (.aload_n 0, 1) := by decide +kernel
theorem dX12_suitorAsks_38 : decode cX12_suitorAsks 38 = .ok (.getfield 16, 3) := by decide +kernel
theorem dX12_suitorAsks_41 : decode cX12_suitorAsks 41 = .ok (.iload 4, 2) := by decide +kernel
theorem dX12_suitorAsks_43 : decode cX12_suitorAsks 43 = .ok (.iaload, 1) := by decide +kernel
theorem dX12_suitorAsks_44 : decode cX12_suitorAsks 44 = .ok (.iconst 1, 1) := by decide +kernel
theorem dX12_suitorAsks_45 : decode cX12_suitorAsks 45 = .ok (.if_icmp .ne 23, 3) := by decide +kernel
theorem dX12_suitorAsks_48 : decode cX12_suitorAsks 48 = .ok (.iload 4, 2) := by decide +kernel
theorem dX12_suitorAsks_50 : decode cX12_suitorAsks 50 = .ok (.iload_n 2, 1) := by decide +kernel
theorem dX12_suitorAsks_51 : decode cX12_suitorAsks 51 = .ok (.if_icmp .eq 17, 3) := by decide +kernel
theorem dX12_suitorAsks_54 : decode cX12_suitorAsks 54 = .ok (.aload_n 0, 1) := by decide +kernel
theorem dX12_suitorAsks_55 : decode cX12_suitorAsks 55 = .ok (.iload 4, 2) := by decide +kernel
theorem dX12_suitorAsks_57 : decode cX12_suitorAsks 57 = .ok (.iload_n 2, 1) := by decide +kernel
theorem dX12_suitorAsks_58 : decode cX12_suitorAsks 58 = .ok (.invokevirtual 373, 3) := by decide +kernel
theorem dX12_suitorAsks_61 : decode cX12_suitorAsks 61 = .ok (.ifCond .eq 7, 3) := by decide +kernel
theorem dX12_suitorAsks_64 : decode cX12_suitorAsks 64 = .ok (.iload_n 3, 1) := by decide +kernel
theorem dX12_suitorAsks_65 : decode cX12_suitorAsks 65 = .ok (.iconst 1, 1) := by decide +kernel
theorem dX12_suitorAsks_66 : decode cX12_suitorAsks 66 = .ok (.iadd, 1) := by decide +kernel
theorem dX12_suitorAsks_67 : decode cX12_suitorAsks 67 = .ok (.istore_n 3, 1) := by decide +kernel
theorem dX12_suitorAsks_68 : decode cX12_suitorAsks 68 = .ok (.iinc 4 1, 3) := by decide +kernel
theorem dX12_suitorAsks_71 : decode cX12_suitorAsks 71 = .ok (.goto (-43), 3) := by decide +kernel
theorem dX12_suitorAsks_74 : decode cX12_suitorAsks 74 = .ok (.iload_n 3, 1) := by decide +kernel
theorem dX12_suitorAsks_75 : decode cX12_suitorAsks 75 = .ok (.iload_n 1, 1) := by decide +kernel
theorem dX12_suitorAsks_76 : decode cX12_suitorAsks 76 = .ok (.if_icmp .ne 5, 3) := by decide +kernel
theorem dX12_suitorAsks_79 : decode cX12_suitorAsks 79 = .ok (.iload_n 2, 1) := by decide +kernel
theorem dX12_suitorAsks_80 : decode cX12_suitorAsks 80 = .ok (.ireturn, 1) := by decide +kernel
theorem dX12_suitorAsks_81 : decode cX12_suitorAsks 81 = .ok (.iinc 2 1, 3) := by decide +kernel
theorem dX12_suitorAsks_84 : decode cX12_suitorAsks 84 = .ok (.goto (-82), 3) := by decide +kernel
theorem dX12_suitorAsks_87 : decode cX12_suitorAsks 87 = .ok (.iconst (-1), 1) := by decide +kernel
theorem dX12_suitorAsks_88 : decode cX12_suitorAsks 88 = .ok (.ireturn, 1) := by decide +kernel
theorem dX12_weds_0 : decode cX12_weds 0 = .ok (.aload_n 0, 1) := by decide +kernel
theorem dX12_weds_1 : decode cX12_weds 1 = .ok (.iconst 0, 1) := by decide +kernel
theorem dX12_weds_2 : decode cX12_weds 2 = .ok (.invokevirtual 324, 3) := by decide +kernel
theorem dX12_weds_5 : decode cX12_weds 5 = .ok (.iconst 0, 1) := by decide +kernel
theorem dX12_weds_6 : decode cX12_weds 6 = .ok (.istore_n 1, 1) := by decide +kernel
theorem dX12_weds_7 : decode cX12_weds 7 = .ok (.iload_n 1, 1) := by decide +kernel
theorem dX12_weds_8 : decode cX12_weds 8 = .ok (.aload_n 0, 1) := by decide +kernel
theorem dX12_weds_9 : decode cX12_weds 9 = .ok (.getfield 154, 3) := by decide +kernel
theorem dX12_weds_12 : decode cX12_weds 12 = .ok (.if_icmp .ge 23, 3) := by decide +kernel
theorem dX12_weds_15 : decode cX12_weds 15 = .ok (.aload_n 0, 1) := by decide +kernel
theorem dX12_weds_16 : decode cX12_weds 16 = .ok (.getfield 113, 3) := by decide +kernel
theorem dX12_weds_19 : decode cX12_weds 19 = .ok (.iload_n 1, 1) := by decide +kernel
theorem dX12_weds_20 : decode cX12_weds 20 = .ok (.iconst (-1), 1) := by decide +kernel
theorem dX12_weds_21 : decode cX12_weds 21 = .ok (.iastore, 1) := by decide +kernel
theorem dX12_weds_22 : decode cX12_weds 22 = .ok (.aload_n 0, 1) := by decide +kernel
theorem dX12_weds_23 : decode cX12_weds 23 = .ok (.getfield 116, 3) := by decide +kernel
theorem dX12_weds_26 : decode cX12_weds 26 = .ok (.iload_n 1, 1) := by decide +kernel
theorem dX12_weds_27 : decode cX12_weds 27 = .ok (.iconst 0, 1) := by decide +kernel
theorem dX12_weds_28 : decode cX12_weds 28 = .ok (.iastore, 1) := by decide +kernel
theorem dX12_weds_29 : decode cX12_weds 29 = .ok (.iinc 1 1, 3) := by decide +kernel
theorem dX12_weds_32 : decode cX12_weds 32 = .ok (.goto (-25), 3) := by decide +kernel
theorem dX12_weds_35 : decode cX12_weds 35 = .ok (.iconst 1, 1) := by decide +kernel
theorem dX12_weds_36 : decode cX12_weds 36 = .ok (.istore_n 1, 1) := by decide +kernel
theorem dX12_weds_37 : decode cX12_weds 37 = .ok (.iload_n 1, 1) := by decide +kernel
theorem dX12_weds_38 : decode cX12_weds 38 = .ok (.ifCond .eq 136, 3) := by decide +kernel
theorem dX12_weds_41 : decode cX12_weds 41 = .ok (.iconst 0, 1) := by decide +kernel
theorem dX12_weds_42 : decode cX12_weds 42 = .ok (.istore_n 1, 1) := by decide +kernel
theorem dX12_weds_43 : decode cX12_weds 43 = .ok (.iconst 0, 1) := by decide +kernel
theorem dX12_weds_44 : decode cX12_weds 44 = .ok (.istore_n 2, 1) := by decide +kernel
theorem dX12_weds_45 : decode cX12_weds 45 = .ok (.iload_n 2, 1) := by decide +kernel
theorem dX12_weds_46 : decode cX12_weds 46 = .ok (.aload_n 0, 1) := by decide +kernel
theorem dX12_weds_47 : decode cX12_weds 47 = .ok (.getfield 154, 3) := by decide +kernel
theorem dX12_weds_50 : decode cX12_weds 50 = .ok (.if_icmp .ge 121, 3) := by decide +kernel
theorem dX12_weds_53 : decode cX12_weds 53 = .ok (.aload_n 0, 1) := by decide +kernel
theorem dX12_weds_54 : decode cX12_weds 54 = .ok (.getfield 16, 3) := by decide +kernel
theorem dX12_weds_57 : decode cX12_weds 57 = .ok (.iload_n 2, 1) := by decide +kernel
theorem dX12_weds_58 : decode cX12_weds 58 = .ok (.iaload, 1) := by decide +kernel
theorem dX12_weds_59 : decode cX12_weds 59 = .ok (.ifCond .ne 106, 3) := by decide +kernel
theorem dX12_weds_62 : decode cX12_weds 62 = .ok (.aload_n 0, 1) := by decide +kernel
theorem dX12_weds_63 : decode cX12_weds 63 = .ok (.getfield 113, 3) := by decide +kernel
theorem dX12_weds_66 : decode cX12_weds 66 = .ok (.iload_n 2, 1) := by decide +kernel
theorem dX12_weds_67 : decode cX12_weds 67 = .ok (.iaload, 1) := by decide +kernel
theorem dX12_weds_68 : decode cX12_weds 68 = .ok (.iconst (-1), 1) := by decide +kernel
theorem dX12_weds_69 : decode cX12_weds 69 = .ok (.if_icmp .eq 6, 3) := by decide +kernel
theorem dX12_weds_72 : decode cX12_weds 72 = .ok (.goto 93, 3) := by decide +kernel
theorem dX12_weds_75 : decode cX12_weds 75 = .ok (.aload_n 0, 1) := by decide +kernel
theorem dX12_weds_76 : decode cX12_weds 76 = .ok (.aload_n 0, 1) := by decide +kernel
theorem dX12_weds_77 : decode cX12_weds 77 = .ok (.getfield 116, 3) := by decide +kernel
theorem dX12_weds_80 : decode cX12_weds 80 = .ok (.iload_n 2, 1) := by decide +kernel
theorem dX12_weds_81 : decode cX12_weds 81 = .ok (.iaload, 1) := by decide +kernel
theorem dX12_weds_82 : decode cX12_weds 82 = .ok (.invokevirtual 376, 3) := by decide +kernel
theorem dX12_weds_85 : decode cX12_weds 85 = .ok (.istore_n 3, 1) := by decide +kernel
theorem dX12_weds_86 : decode cX12_weds 86 = .ok (.iload_n 3, 1) := by decide +kernel
theorem dX12_weds_87 : decode cX12_weds 87 = .ok (.iconst (-1), 1) := by decide +kernel
theorem dX12_weds_88 : decode cX12_weds 88 = .ok (.if_icmp .ne 6, 3) := by decide +kernel
theorem dX12_weds_91 : decode cX12_weds 91 = .ok (.goto 74, 3) := by decide +kernel
theorem dX12_weds_94 : decode cX12_weds 94 = .ok (.aload_n 0, 1) := by decide +kernel
theorem dX12_weds_95 : decode cX12_weds 95 = .ok (.getfield 116, 3) := by decide +kernel
theorem dX12_weds_98 : decode cX12_weds 98 = .ok (.iload_n 2, 1) := by decide +kernel
theorem dX12_weds_99 : decode cX12_weds 99 = .ok (.aload_n 0, 1) := by decide +kernel
theorem dX12_weds_100 : decode cX12_weds 100 = .ok (.getfield 116, 3) := by decide +kernel
theorem dX12_weds_103 : decode cX12_weds 103 = .ok (.iload_n 2, 1) := by decide +kernel
theorem dX12_weds_104 : decode cX12_weds 104 = .ok (.iaload, 1) := by decide +kernel
theorem dX12_weds_105 : decode cX12_weds 105 = .ok (.iconst 1, 1) := by decide +kernel
theorem dX12_weds_106 : decode cX12_weds 106 = .ok (.iadd, 1) := by decide +kernel
theorem dX12_weds_107 : decode cX12_weds 107 = .ok (.iastore, 1) := by decide +kernel
theorem dX12_weds_108 : decode cX12_weds 108 = .ok (.iconst 1, 1) := by decide +kernel
theorem dX12_weds_109 : decode cX12_weds 109 = .ok (.istore_n 1, 1) := by decide +kernel
theorem dX12_weds_110 : decode cX12_weds 110 = .ok (.aload_n 0, 1) := by decide +kernel
theorem dX12_weds_111 : decode cX12_weds 111 = .ok (.getfield 113, 3) := by decide +kernel
theorem dX12_weds_114 : decode cX12_weds 114 = .ok (.iload_n 3, 1) := by decide +kernel
theorem dX12_weds_115 : decode cX12_weds 115 = .ok (.iaload, 1) := by decide +kernel
theorem dX12_weds_116 : decode cX12_weds 116 = .ok (.istore 4, 2) := by decide +kernel
theorem dX12_weds_118 : decode cX12_weds 118 = .ok (.iload 4, 2) := by decide +kernel
theorem dX12_weds_120 : decode cX12_weds 120 = .ok (.iconst (-1), 1) := by decide +kernel
theorem dX12_weds_121 : decode cX12_weds 121 = .ok (.if_icmp .eq 16, 3) := by decide +kernel
theorem dX12_weds_124 : decode cX12_weds 124 = .ok (.aload_n 0, 1) := by decide +kernel
theorem dX12_weds_125 : decode cX12_weds 125 = .ok (.iload 4, 2) := by decide +kernel
theorem dX12_weds_127 : decode cX12_weds 127 = .ok (.iload_n 2, 1) := by decide +kernel
theorem dX12_weds_128 : decode cX12_weds 128 = .ok (.invokevirtual 373, 3) := by decide +kernel
theorem dX12_weds_131 : decode cX12_weds 131 = .ok (.ifCond .eq 6, 3) := by decide +kernel
theorem dX12_weds_134 : decode cX12_weds 134 = .ok (.goto 31, 3) := by decide +kernel
theorem dX12_weds_137 : decode cX12_weds 137 = .ok (.iload 4, 2) := by decide +kernel
theorem dX12_weds_139 : decode cX12_weds 139 = .ok (.iconst (-1), 1) := by decide +kernel
theorem dX12_weds_140 : decode cX12_weds 140 = .ok (.if_icmp .eq 11, 3) := by decide +kernel
theorem dX12_weds_143 : decode cX12_weds 143 = .ok (.aload_n 0, 1) := by decide +kernel
theorem dX12_weds_144 : decode cX12_weds 144 = .ok (.getfield 113, 3) := by decide +kernel
theorem dX12_weds_147 : decode cX12_weds 147 = .ok (.iload 4, 2) := by decide +kernel
theorem dX12_weds_149 : decode cX12_weds 149 = .ok (.iconst (-1), 1) := by decide +kernel
theorem dX12_weds_150 : decode cX12_weds 150 = .ok (.iastore, 1) := by decide +kernel
theorem dX12_weds_151 : decode cX12_weds 151 = .ok (.aload_n 0, 1) := by decide +kernel
theorem dX12_weds_152 : decode cX12_weds 152 = .ok (.getfield 113, 3) := by decide +kernel
theorem dX12_weds_155 : decode cX12_weds 155 = .ok (.iload_n 3, 1) := by decide +kernel
theorem dX12_weds_156 : decode cX12_weds 156 = .ok (.iload_n 2, 1) := by decide +kernel
theorem dX12_weds_157 : decode cX12_weds 157 = .ok (.iastore, 1) := by decide +kernel
theorem dX12_weds_158 : decode cX12_weds 158 = .ok (.aload_n 0, 1) := by decide +kernel
theorem dX12_weds_159 : decode cX12_weds 159 = .ok (.getfield 113, 3) := by decide +kernel
theorem dX12_weds_162 : decode cX12_weds 162 = .ok (.iload_n 2, 1) := by decide +kernel
theorem dX12_weds_163 : decode cX12_weds 163 = .ok (.iload_n 3, 1) := by decide +kernel
theorem dX12_weds_164 : decode cX12_weds 164 = .ok (.iastore, 1) := by decide +kernel
theorem dX12_weds_165 : decode cX12_weds 165 = .ok (.iinc 2 1, 3) := by decide +kernel
theorem dX12_weds_168 : decode cX12_weds 168 = .ok (.goto (-123), 3) := by decide +kernel
theorem dX12_weds_171 : decode cX12_weds 171 = .ok (.goto (-134), 3) := by decide +kernel
theorem dX12_weds_174 : decode cX12_weds 174 = .ok (.return_, 1) := by decide +kernel
theorem dX12_wed_0 : decode cX12_wed 0 = .ok (.aload_n 0, 1) := by decide +kernel
theorem dX12_wed_1 : decode cX12_wed 1 = .ok (.iconst 0, 1) := by decide +kernel
theorem dX12_wed_2 : decode cX12_wed 2 = .ok (.putfield 146, 3) := by decide +kernel
theorem dX12_wed_5 : decode cX12_wed 5 = .ok (.aload_n 0, 1) := by decide +kernel
theorem dX12_wed_6 : decode cX12_wed 6 = .ok (.iload_n 1, 1) := by decide +kernel
theorem dX12_wed_7 : decode cX12_wed 7 = .ok (.invokevirtual 191, 3) := by decide +kernel
theorem dX12_wed_10 : decode cX12_wed 10 = .ok (.ifCond .eq 13, 3) := by decide +kernel
theorem dX12_wed_13 : decode cX12_wed 13 = .ok (.aload_n 0, 1) := by decide +kernel
theorem dX12_wed_14 : decode cX12_wed 14 = .ok (.iload_n 2, 1) := by decide +kernel
theorem dX12_wed_15 : decode cX12_wed 15 = .ok (.iconst 0, 1) := by decide +kernel
theorem dX12_wed_16 : decode cX12_wed 16 = .ok (.iconst 2, 1) := by decide +kernel
theorem dX12_wed_17 : decode cX12_wed 17 = .ok (.invokevirtual 160, 3) := by decide +kernel
theorem dX12_wed_20 : decode cX12_wed 20 = .ok (.ifCond .ne 7, 3) := by decide +kernel
theorem dX12_wed_23 : decode cX12_wed 23 = .ok (.ldc_w 327, 3) := by decide +kernel
theorem dX12_wed_26 : decode cX12_wed 26 = .ok (.ireturn, 1) := by decide +kernel
theorem dX12_wed_27 : decode cX12_wed 27 = .ok (.aload_n 0, 1) := by decide +kernel
theorem dX12_wed_28 : decode cX12_wed 28 = .ok (.invokevirtual 379, 3) := by decide +kernel
theorem dX12_wed_31 : decode cX12_wed 31 = .ok (.aload_n 0, 1) := by decide +kernel
theorem dX12_wed_32 : decode cX12_wed 32 = .ok (.getfield 113, 3) := by decide +kernel
theorem dX12_wed_35 : decode cX12_wed 35 = .ok (.iload_n 1, 1) := by decide +kernel
theorem dX12_wed_36 : decode cX12_wed 36 = .ok (.iaload, 1) := by decide +kernel
theorem dX12_wed_37 : decode cX12_wed 37 = .ok (.istore_n 3, 1) := by decide +kernel
theorem dX12_wed_38 : decode cX12_wed 38 = .ok (.iload_n 2, 1) := by decide +kernel
theorem dX12_wed_39 : decode cX12_wed 39 = .ok (.ifCond .ne 5, 3) := by decide +kernel
theorem dX12_wed_42 : decode cX12_wed 42 = .ok (.iload_n 3, 1) := by decide +kernel
theorem dX12_wed_43 : decode cX12_wed 43 = .ok (.ireturn, 1) := by decide +kernel
theorem dX12_wed_44 : decode cX12_wed 44 = .ok (.iload_n 3, 1) := by decide +kernel
theorem dX12_wed_45 : decode cX12_wed 45 = .ok (.iconst (-1), 1) := by decide +kernel
theorem dX12_wed_46 : decode cX12_wed 46 = .ok (.if_icmp .ne 14, 3) := by decide +kernel
theorem dX12_wed_49 : decode cX12_wed 49 = .ok (.iload_n 2, 1) := by decide +kernel
theorem dX12_wed_50 : decode cX12_wed 50 = .ok (.iconst 1, 1) := by decide +kernel
theorem dX12_wed_51 : decode cX12_wed 51 = .ok (.if_icmp .ne 7, 3) := by decide +kernel
theorem dX12_wed_54 : decode cX12_wed 54 = .ok (.iconst (-1), 1) := by decide +kernel
theorem dX12_wed_55 : decode cX12_wed 55 = .ok (.goto 4, 3) := by decide +kernel
theorem dX12_wed_58 : decode cX12_wed 58 = .ok (.iconst 0, 1) := by decide +kernel
theorem dX12_wed_59 : decode cX12_wed 59 = .ok (.ireturn, 1) := by decide +kernel
theorem dX12_wed_60 : decode cX12_wed 60 = .ok (.aload_n 0, 1) := by decide +kernel
theorem dX12_wed_61 : decode cX12_wed 61 = .ok (.getfield 16, 3) := by decide +kernel
theorem dX12_wed_64 : decode cX12_wed 64 = .ok (.iload_n 1, 1) := by decide +kernel
theorem dX12_wed_65 : decode cX12_wed 65 = .ok (.iaload, 1) := by decide +kernel
theorem dX12_wed_66 : decode cX12_wed 66 = .ok (.ifCond .ne 7, 3) := by decide +kernel
theorem dX12_wed_69 : decode cX12_wed 69 = .ok (.iload_n 1, 1) := by decide +kernel
theorem dX12_wed_70 : decode cX12_wed 70 = .ok (.goto 4, 3) := by decide +kernel
theorem dX12_wed_73 : decode cX12_wed 73 = .ok (.iload_n 3, 1) := by decide +kernel
theorem dX12_wed_74 : decode cX12_wed 74 = .ok (.istore 4, 2) := by decide +kernel
theorem dX12_wed_76 : decode cX12_wed 76 = .ok (.iload 4, 2) := by decide +kernel
theorem dX12_wed_78 : decode cX12_wed 78 = .ok (.iload_n 1, 1) := by decide +kernel
theorem dX12_wed_79 : decode cX12_wed 79 = .ok (.if_icmp .ne 7, 3) := by decide +kernel
theorem dX12_wed_82 : decode cX12_wed 82 = .ok (.iload_n 3, 1) := by decide +kernel
theorem dX12_wed_83 : decode cX12_wed 83 = .ok (.goto 4, 3) := by decide +kernel
theorem dX12_wed_86 : decode cX12_wed 86 = .ok (.iload_n 1, 1) := by decide +kernel
theorem dX12_wed_87 : decode cX12_wed 87 = .ok (.istore 5, 2) := by decide +kernel
theorem dX12_wed_89 : decode cX12_wed 89 = .ok (.aload_n 0, 1) := by decide +kernel
theorem dX12_wed_90 : decode cX12_wed 90 = .ok (.getfield 98, 3) := by decide +kernel
theorem dX12_wed_93 : decode cX12_wed 93 = .ok (.iload 5, 2) := by decide +kernel
theorem dX12_wed_95 : decode cX12_wed 95 = .ok (.iaload, 1) := by decide +kernel
theorem dX12_wed_96 : decode cX12_wed 96 = .ok (.aload_n 0, 1) := by decide +kernel
theorem dX12_wed_97 : decode cX12_wed 97 = .ok (.getfield 98, 3) := by decide +kernel
theorem dX12_wed_100 : decode cX12_wed 100 = .ok (.iload 4, 2) := by decide +kernel
theorem dX12_wed_102 : decode cX12_wed 102 = .ok (.iaload, 1) := by decide +kernel
theorem dX12_wed_103 : decode cX12_wed 103 = .ok (.if_icmp .le 8, 3) := by decide +kernel
